/-! chances, lots, what is told -/
theorem lN_div {a b : Nat} (ha : a < 2 ^ 63) (hb : b < 2 ^ 63) : lN a / lN b = lN (a / b) := (Int64.ofNat_div ha hb).symm
theorem lN_mod {a b : Nat} (ha : a < 2 ^ 63) (hb : b < 2 ^ 63) : lN a - lN a / lN b * lN b = lN (a % b) := by
  rw [lN_div ha hb, lN_mul, lN_sub (Nat.div_mul_le_self a b)]
  congr 1
  have := Nat.div_add_mod a b
  rw [Nat.mul_comm] at this
  omega
theorem lN_eq0 {a : Nat} (ha : a < 2 ^ 31) : lN a = 0 ↔ a = 0 := lN_eq (b := 0) ha (by omega)
theorem lgc_eq {a : Nat} (ha : a < 2 ^ 31) : lg_cmp (lN a) 0 = 0 ↔ a = 0 := by
  unfold lg_cmp
  by_cases h : a = 0
  · subst h; exact ⟨fun _ => rfl, fun _ => rfl⟩
  · have h1 : lN a > 0 := (lN_lt (a := 0) (b := a) (by omega) ha).mpr (by omega)
    rw [if_pos h1]
    exact ⟨fun q => absurd q (by decide), fun q => absurd q h⟩
theorem lgc_le {a : Nat} (ha : a < 2 ^ 31) (h : 0 < a) : ¬ lg_cmp (lN a) 0 ≤ 0 := by
  unfold lg_cmp
  have h1 : lN a > 0 := (lN_lt (a := 0) (b := a) (by omega) ha).mpr (by omega)
  rw [if_pos h1]; decide
section S39
variable {X : aX} {d : Nat} {vi : Nat → Nat → Int32} {vl : Nat → Nat → Int64} {post : aO} {A : aA}
theorem cd_go : ∀ (k a b s : Nat), a < 2 ^ 31 → b < 2 ^ k → k ≤ 31 → s + 2 * k ≤ 99 → ∀ l5 l6, post (some (.long (lN (Nat.gcd a b)))) (mk vi vl) → wp X (d + 1) k_S_commonDivisor 0 0 3 [some (.long (lN a)), none, some (.long (lN b)), none, some (.int (nI s)), l5, l6] [] (mk vi vl) post := by
  intro k
  induction k with
  | zero =>
    intro a b s ha hb hk hs l5 l6 hQ
    have hb0 : b = 0 := by simpa using hb
    subst hb0
    have g1 : ¬ (100 : Int32) ≤ nI s := nI_ge (a := s) (b := 100) (by omega) (by omega)
    have g2 : lg_cmp (lN 0) 0 = 0 := (lgc_eq (by omega)).mpr rfl
    refine b_S_commonDivisor_3 (fun h3 => absurd h3 (by first | decide | assumption | omega | simp_all)) (fun h3 => b_S_commonDivisor_10 (fun h10 => b_S_commonDivisor_32 ?_) (fun h10 => absurd h10 (by first | decide | assumption | omega | simp_all)))
    rw [Nat.gcd_zero_right] at hQ
    exact hQ
  | succ k ih =>
    intro a b s ha hb hk hs l5 l6 hQ
    have hpow : 2 ^ (k + 1) ≤ 2 ^ 31 := Nat.pow_le_pow_right (by decide) hk
    have g1 : ¬ (100 : Int32) ≤ nI s := nI_ge (a := s) (b := 100) (by omega) (by omega)
    by_cases hb0 : b = 0
    · subst hb0
      have g2 : lg_cmp (lN 0) 0 = 0 := (lgc_eq (by omega)).mpr rfl
      refine b_S_commonDivisor_3 (fun h3 => absurd h3 (by first | decide | assumption | omega | simp_all)) (fun h3 => b_S_commonDivisor_10 (fun h10 => b_S_commonDivisor_32 ?_) (fun h10 => absurd h10 (by first | decide | assumption | omega | simp_all)))
      rw [Nat.gcd_zero_right] at hQ
      exact hQ
    · have g2 : ¬ lg_cmp (lN b) 0 = 0 := fun q => hb0 ((lgc_eq (by omega)).mp q)
      have g3 : ¬ lN b = 0 := fun q => hb0 ((lN_eq0 (by omega)).mp q)
      have hr : a % b < b := Nat.mod_lt _ (by omega)
      rw [Nat.gcd_comm, Nat.gcd_rec, Nat.gcd_comm] at hQ
      refine b_S_commonDivisor_3 (fun h3 => absurd h3 (by first | decide | assumption | omega | simp_all)) (fun h3 => b_S_commonDivisor_10 (fun h10 => absurd h10 (by first | decide | assumption | omega | simp_all)) (fun h10 => b_S_commonDivisor_16 (by first | assumption | decide | (refine vp_in_nI ?_ ?_ <;> omega) | omega | simp_all) ?_))
      rw [lN_mod (by omega) (by omega), nI_1]
      by_cases hr0 : a % b = 0
      · refine ih b (a % b) (s + 1) (by omega) ?_ (by omega) (by omega) _ _ hQ
        rw [hr0]; exact Nat.pow_pos (by decide)
      · have g1 : ¬ (100 : Int32) ≤ nI (s + 1) := nI_ge (a := s + 1) (b := 100) (by omega) (by omega)
        have g2 : ¬ lg_cmp (lN (a % b)) 0 = 0 := fun q => hr0 ((lgc_eq (by omega)).mp q)
        have g3 : ¬ lN (a % b) = 0 := fun q => hr0 ((lN_eq0 (by omega)).mp q)
        have hr2 : b % (a % b) < a % b := Nat.mod_lt _ (by omega)
        rw [Nat.gcd_comm, Nat.gcd_rec, Nat.gcd_comm] at hQ
        refine b_S_commonDivisor_3 (fun h3 => absurd h3 (by first | decide | assumption | omega | simp_all)) (fun h3 => b_S_commonDivisor_10 (fun h10 => absurd h10 (by first | decide | assumption | omega | simp_all)) (fun h10 => b_S_commonDivisor_16 (by first | assumption | decide | (refine vp_in_nI ?_ ?_ <;> omega) | omega | simp_all) ?_))
        rw [lN_mod (by omega) (by omega), nI_1]
        refine ih (a % b) (b % (a % b)) (s + 2) (by omega) ?_ (by omega) (by omega) _ _ hQ
        have h3 : b % (a % b) + a % b ≤ b := by
          have h4 := Nat.div_add_mod b (a % b)
          have h5 : 1 ≤ b / (a % b) := Nat.div_pos (by omega) (by omega)
          have h6 : (a % b) * 1 ≤ (a % b) * (b / (a % b)) := Nat.mul_le_mul_left _ h5
          omega
        have : 2 ^ (k + 1) = 2 * 2 ^ k := by rw [Nat.pow_succ, Nat.mul_comm]
        omega
theorem c_S_commonDivisor {a b : Nat} (ha : a < 2 ^ 31) (hb : b < 2 ^ 31) (hQ : post (some (.long (lN (Nat.gcd a b)))) (mk vi vl)) : CallOk X (d + 1) 0 0 k_S_commonDivisor [.long (lN a), .long (lN b)] (mk vi vl) post := by
  refine CallOk.intro (by decide +kernel) rfl (Nat.le_of_ble_eq_true rfl) ?_
  refine b_S_commonDivisor_0 ?_
  exact cd_go 31 a b 0 ha hb (by omega) (by omega) _ _ hQ
theorem c_S_tellFraction {u l : Nat} (hu : u < 2 ^ 31) (hl : l < 2 ^ 31) (h0 : 0 < l) (hQ : ∀ wl, wl 0 9 = lN (u / Nat.gcd u l) → wl 0 10 = lN (l / Nat.gcd u l) → (∀ j, j ≠ 0 → wl j = vl j) → post none (mk vi wl)) : CallOk X (d + 2) 0 0 k_S_tellFraction [.ref 0, .long (lN u), .long (lN l)] (mk vi vl) post := by
  refine CallOk.intro (by decide +kernel) rfl (Nat.le_of_ble_eq_true rfl) ?_
  refine b_S_tellFraction_0 ?_
  refine c_S_commonDivisor hu hl ?_
  have hg : 0 < Nat.gcd u l := Nat.gcd_pos_of_pos_right _ h0
  have hg2 : Nat.gcd u l ≤ l := Nat.gcd_le_right _ h0
  have g1 := lgc_le (a := Nat.gcd u l) (by omega) hg
  have g2 : ¬ lN (Nat.gcd u l) = 0 := fun q => by have := (lN_eq0 (by omega)).mp q; omega
  refine b_S_tellFraction_5 (fun h5 => absurd h5 (by first | decide | assumption | omega | simp_all)) (fun h5 => b_S_tellFraction_14 (by first | assumption | decide | (refine vp_in_nI ?_ ?_ <;> omega) | omega | simp_all) (fun w14 hw14 => b_S_tellFraction_22 (by first | assumption | decide | (refine vp_in_nI ?_ ?_ <;> omega) | omega | simp_all) (fun w22 hw22 => b_S_tellFraction_30 ?_)))
  refine hQ _ ?_ ?_ (fun j hj => ?_)
  · rw [hw22, up2_s, vau_n (by decide), hw14, up2_s, vau_s, lN_div (by omega) (by omega)]
  · rw [hw22, up2_s, vau_s, lN_div (by omega) (by omega)]
  · rw [hw22, up2_n hj, hw14, up2_n hj]
theorem AbC_frc {w : Nat → Nat → Int32} {wl : Nat → Nat → Int64} {u l : Nat} (hL : cL (aCu A) ≤ 8) (hA : AbC A vi vl) (hw : ∀ j, (j < 26 ∨ 40 < j) → w j = vi j) (h9 : wl 0 9 = lN (u / Nat.gcd u l)) (h10 : wl 0 10 = lN (l / Nat.gcd u l)) : AbC (frcT A u l) w wl := AbC_ul (vl := vl) (AbC_pl hL hA hw) h9 h10
theorem s_ways {s y n : Int32} (hW : wfA A) (hA : AbC A vi vl) (hQ : PC vi vl post (oWays A s y n)) : CallOk X (d + 12) 0 0 k_S_ways [.ref 0, .int s, .int y, .int n] (mk vi vl) post := by
  refine CallOk.intro (by decide +kernel) rfl (Nat.le_of_ble_eq_true rfl) ?_
  unfold oWays at hQ
  have h5' := hW.N5
  refine b_S_ways_0 ?_
  refine c_S_isScene (fun hs => ?_) (fun hs => ?_)
  · refine b_S_ways_4 (fun h4 => absurd h4 (by first | decide | assumption | omega | simp_all)) (fun h4 => b_S_ways_7 ?_)
    refine c_S_isYear hA.2.1.1.1 hW.N5 (fun hy => ?_) (fun hy => ?_)
    · obtain ⟨j, hj, rfl⟩ := vp_in_of hy (by omega)
      have cj : (nI j).toNatClampNeg = j := nI_clamp (by omega)
      by_cases hn : vp_in n 6
      · rw [inB_t hs, inB_t hy, inB_t hn, if_pos ⟨rfl, rfl, rfl⟩, cj] at hQ
        obtain ⟨m, hm, rfl⟩ := vp_in_of hn (by decide)
        rw [nI_clamp (show m < 2 ^ 31 by omega)] at hQ
        have g1 : ¬ nI m < 0 := nI_pos (by omega)
        have g2 : nI m ≤ 5 := nI_le (a := m) (b := 5) (by omega) (by omega)
        refine b_S_ways_12 (fun h12 => absurd h12 (by first | decide | assumption | omega | simp_all)) (fun h12 => b_S_ways_15 (fun h15 => absurd h15 (by first | decide | assumption | omega | simp_all)) (fun h15 => b_S_ways_19 (fun h19 => b_S_ways_26 ?_) (fun h19 => absurd h19 (by first | decide | assumption | omega | simp_all))))
        refine c_P_begin (x := true) (y := false) ?_
        refine b_S_ways_35 ?_
        refine c_P_want (by omega) ?_
        refine b_S_ways_46 ?_
        refine a_seek (c := aCu A) (wan := wanS j s) (wh := true) (pl := false) hW.2.2.1.v (ClV_fr hA.2.1.1.v (fun q _ _ => by rw [up2_n (by omega), scr_bg (by omega) (by omega)])) (by rw [up2_n (by decide)]; exact bg_4) (by rw [up2_n (by decide)]; exact bg_5) (fun z hz => ?_) (by omega) (fun u hu _ _ _ => ?_)
        · rw [up2_s]; unfold wanS
          by_cases hzj : z = j
          · subst hzj; rw [vau_s, vau_s]
          · rw [vau_n hzj, vau_n hzj]; exact bg_39 (by omega)
        · have hle := num_le (c := aCu A) (wan := wanS j s) (wh := true) (pl := false) (most := m) h5'
          have o2 : ∀ q, (q < 26 ∨ 40 < q) → u q = vi q := fun q hq => by rw [hu q (by omega), up2_n (by omega), scr_bg (by omega) (by omega)]
          refine b_S_ways_59 ?_
          rw [nI_l (by omega), show (1 : Int64) = lN 1 from rfl]
          refine c_S_tellFraction (by omega) (by omega) (by omega) (fun wl h9 h10 hwl => ?_)
          refine b_S_ways_64 ?_
          exact hQ _ _ (AbC_frc hW.L8 hA o2 h9 h10) ⟨fun q hq => o2 q (by omega), fun q hq => hwl q (by omega)⟩
      · rw [inB_f hn, if_neg (fun q => by cases q.2.2)] at hQ
        by_cases g1 : n < 0
        · refine b_S_ways_12 (fun h12 => absurd h12 (by first | decide | assumption | omega | simp_all)) (fun h12 => b_S_ways_15 (fun h15 => b_S_ways_24 ?_) (fun h15 => absurd h15 (by first | decide | assumption | omega | simp_all)))
          exact hQ _ _ hA smM_rf
        · have g2 : ¬ n ≤ 5 := fun q => hn (by obtain ⟨j, hj, rfl⟩ := nI_of2 (M := 5) (n := 5) (by decide) g1 q; exact vp_in_nI (by omega) (by omega))
          refine b_S_ways_12 (fun h12 => absurd h12 (by first | decide | assumption | omega | simp_all)) (fun h12 => b_S_ways_15 (fun h15 => absurd h15 (by first | decide | assumption | omega | simp_all)) (fun h15 => b_S_ways_19 (fun h19 => absurd h19 (by first | decide | assumption | omega | simp_all)) (fun h19 => b_S_ways_24 ?_)))
          exact hQ _ _ hA smM_rf
    · rw [inB_f hy, if_neg (fun q => by cases q.2.1)] at hQ
      refine b_S_ways_12 (fun h12 => b_S_ways_24 ?_) (fun h12 => absurd h12 (by first | decide | assumption | omega | simp_all))
      exact hQ _ _ hA smM_rf
  · rw [inB_f hs, if_neg (fun q => by cases q.1)] at hQ
    refine b_S_ways_4 (fun h4 => b_S_ways_24 ?_) (fun h4 => absurd h4 (by first | decide | assumption | omega | simp_all))
    exact hQ _ _ hA smM_rf
theorem pop_le (m : Nat) : pop m ≤ 8 := cn_le _ _
theorem pop_32 : ∀ m, m < 32 → pop m ≤ 5 := by decide +kernel
theorem s_odds {s y : Int32} (hW : wfA A) (hA : AbC A vi vl) (hQ : PC vi vl post (oOdds A s y)) : CallOk X (d + 12) 0 0 k_S_odds [.ref 0, .int s, .int y] (mk vi vl) post := by
  refine CallOk.intro (by decide +kernel) rfl (Nat.le_of_ble_eq_true rfl) ?_
  unfold oOdds at hQ
  have h5' := hW.N5
  refine b_S_odds_0 ?_
  refine c_S_isScene (fun hs => ?_) (fun hs => ?_)
  · refine b_S_odds_4 (fun h4 => absurd h4 (by first | decide | assumption | omega | simp_all)) (fun h4 => b_S_odds_7 ?_)
    refine c_S_isYear hA.2.1.1.1 hW.N5 (fun hy => ?_) (fun hy => ?_)
    · obtain ⟨j, hj, rfl⟩ := vp_in_of hy (by omega)
      have cj : (nI j).toNatClampNeg = j := nI_clamp (by omega)
      rw [inB_t hs, inB_t hy, if_pos ⟨rfl, rfl⟩, cj] at hQ
      refine b_S_odds_12 (fun h12 => b_S_odds_17 ?_) (fun h12 => absurd h12 (by first | decide | assumption | omega | simp_all))
      refine c_P_begin (x := false) (y := true) ?_
      refine b_S_odds_26 ?_
      refine c_P_want (by omega) ?_
      refine b_S_odds_37 ?_
      refine a_seek (c := aCu A) (wan := wanS j s) (wh := false) (pl := true) (most := 5) hW.2.2.1.v (ClV_fr hA.2.1.1.v (fun q _ _ => by rw [up2_n (by omega), scr_bg (by omega) (by omega)])) (by rw [up2_n (by decide)]; exact bg_4) (by rw [up2_n (by decide)]; exact bg_5) (fun z hz => ?_) (by omega) (fun u hu _ _ _ => ?_)
      · rw [up2_s]; unfold wanS
        by_cases hzj : z = j
        · subst hzj; rw [vau_s, vau_s]
        · rw [vau_n hzj, vau_n hzj]; exact bg_39 (by omega)
      · have hle := num_le (c := aCu A) (wan := wanS j s) (wh := false) (pl := true) (most := 5) h5'
        have o2 : ∀ q, (q < 26 ∨ 40 < q) → u q = vi q := fun q hq => by rw [hu q (by omega), up2_n (by omega), scr_bg (by omega) (by omega)]
        refine b_S_odds_49 ?_
        refine a_yearsThatAre (c := aCu A) isCl_3 hW.2.2.1.v (ClV_fr hA.2.1.1.v (fun q _ _ => o2 q (by omega))) ?_
        have h32 := ysT_32 (c := aCu A) (s := 0) h5'
        refine b_S_odds_61 ?_
        refine c_J_bitCount (by omega) ?_
        refine b_S_odds_64 ?_
        have hp5 := pop_32 _ h32
        generalize hpp : pop (ysT (aCu A) 0) = p at hQ hp5
        have key : ∀ k, k ≤ p → wp X (d + 12) k_S_odds 0 0 66 [some (.ref 0), some (.int s), some (.int (nI j)), some (.int (nI (num (aCu A) (wanS j s) false true 5))), some (.long (lN (6 ^ (p - k)))), none, some (.int (nI k))] [] (mk u vl) post := by
          intro k
          induction k with
          | zero =>
            intro _
            have hpw : 6 ^ p ≤ 6 ^ 5 := Nat.pow_le_pow_right (by decide) hp5
            have hpos : 0 < 6 ^ p := Nat.pow_pos (by decide)
            refine b_S_odds_66 (fun h66 => b_S_odds_85 ?_) (fun h66 => absurd h66 (by first | decide | assumption | omega | simp_all))
            rw [nI_l (by omega), Nat.sub_zero]
            refine c_S_tellFraction (by omega) (by omega) hpos (fun wl h9 h10 hwl => ?_)
            refine b_S_odds_93 ?_
            exact hQ _ _ (AbC_frc hW.L8 hA o2 h9 h10) ⟨fun q hq => o2 q (by omega), fun q hq => hwl q (by omega)⟩
          | succ k ih =>
            intro hk
            have g1 : ¬ nI (k + 1) ≤ 0 := nI_nle (by omega) (by omega)
            refine b_S_odds_66 (fun h66 => absurd h66 (by first | decide | assumption | omega | simp_all)) (fun h66 => b_S_odds_71 ?_)
            have e1 : nI (k + 1) + -1 = nI k := by rw [← Int32.sub_eq_add_neg]; exact nI_pred k
            rw [e1, show (6 : Int64) = lN 6 from rfl, lN_mul, ← Nat.pow_succ, show Nat.succ (p - (k + 1)) = p - k by omega]
            exact ih (by omega)
        have := key p (Nat.le_refl _)
        rw [Nat.sub_self] at this
        exact this
    · rw [inB_f hy, if_neg (fun q => by cases q.2)] at hQ
      refine b_S_odds_12 (fun h12 => absurd h12 (by first | decide | assumption | omega | simp_all)) (fun h12 => b_S_odds_15 ?_)
      exact hQ _ _ hA smM_rf
  · rw [inB_f hs, if_neg (fun q => by cases q.1)] at hQ
    refine b_S_odds_4 (fun h4 => b_S_odds_15 ?_) (fun h4 => absurd h4 (by first | decide | assumption | omega | simp_all))
    exact hQ _ _ hA smM_rf
theorem c_S_firstChanged {n : Nat} {p : Nat → Nat} (hn : vi 3 0 = nI n) (hn5 : n ≤ 5) (hp : ∀ y, y < n → p y < 7) (h40 : ∀ y, y < n → vi 40 y = nI (p y)) (hQ : post (some (.int (frF (fun y => !decide (p y = 6)) 0 n))) (mk vi vl)) : CallOk X (d + 1) 0 0 k_S_firstChanged [.ref 0, .ref 40] (mk vi vl) post := by
  refine CallOk.intro (by decide +kernel) rfl (Nat.le_of_ble_eq_true rfl) ?_
  have s40 : sh0 40 = (0, 5) := sq_40
  refine b_S_firstChanged_0 ?_
  have key := loop_up (P := fun j => frF (fun y => !decide (p y = 6)) 0 n = frF (fun y => !decide (p y = 6)) j (n - j) → wp X (d + 1) k_S_firstChanged 0 0 2 [some (.ref 0), some (.ref 40), some (.int (nI j))] [] (mk vi vl) post) n 0 (Nat.zero_le _) ?_ ?_
  · exact key rfl
  · intro he
    rw [Nat.sub_self] at he
    rw [he] at hQ
    have e1 : vi 3 0 ≤ nI n := by rw [hn]; exact Int32.le_refl _
    refine b_S_firstChanged_2 (fun h2 => b_S_firstChanged_29 ?_) (fun h2 => absurd h2 (by first | decide | assumption | omega | simp_all))
    exact hQ
  · intro j _ hj ih he
    have e1 : ¬ vi 3 0 ≤ nI j := by rw [hn]; exact nI_ge hj (by omega)
    have cj : (nI j).toNatClampNeg = j := nI_clamp (by omega)
    have vj : vp_in (nI j) 5 := vp_in_nI (by omega) (by omega)
    rw [show n - j = (n - (j + 1)) + 1 by omega] at he
    simp only [frF] at he
    have hpj := hp j hj
    by_cases h6 : p j = 6
    · have g : vi 40 (nI j).toNatClampNeg = 6 := by rw [cj, h40 j hj, h6]; rfl
      refine b_S_firstChanged_2 (fun h2 => absurd h2 (by first | decide | assumption | omega | simp_all)) (fun h2 => b_S_firstChanged_13 (by first | assumption | decide | (refine vp_in_nI ?_ ?_ <;> omega) | omega | simp_all) (by first | assumption | decide | (refine vp_in_nI ?_ ?_ <;> omega) | omega | simp_all) (by first | assumption | decide | (refine vp_in_nI ?_ ?_ <;> omega) | omega | simp_all) (fun h13 => b_S_firstChanged_23 ?_) (fun h13 => absurd h13 (by first | decide | assumption | omega | simp_all)))
      rw [nI_1]
      refine ih ?_
      rw [he]; simp [h6]
    · have g : ¬ vi 40 (nI j).toNatClampNeg = 6 := by rw [cj, h40 j hj]; exact fun q => h6 ((nI_6 (by omega)).mp q)
      refine b_S_firstChanged_2 (fun h2 => absurd h2 (by first | decide | assumption | omega | simp_all)) (fun h2 => b_S_firstChanged_13 (by first | assumption | decide | (refine vp_in_nI ?_ ?_ <;> omega) | omega | simp_all) (by first | assumption | decide | (refine vp_in_nI ?_ ?_ <;> omega) | omega | simp_all) (by first | assumption | decide | (refine vp_in_nI ?_ ?_ <;> omega) | omega | simp_all) (fun h13 => absurd h13 (by first | decide | assumption | omega | simp_all)) (fun h13 => b_S_firstChanged_21 ?_))
      rw [he] at hQ
      simpa [h6] using hQ
theorem dgc_7 {n code y : Nat} : dgc n code y < 7 := Nat.mod_lt _ (by decide)
theorem s_forged {r : Int32} (hW : wfA A) (hA : AbC A vi vl) (hQ : PC vi vl post (oForged A r)) : CallOk X (d + 12) 0 0 k_S_forged [.ref 0, .int r] (mk vi vl) post := by
  refine CallOk.intro (by decide +kernel) rfl (Nat.le_of_ble_eq_true rfl) ?_
  unfold oForged at hQ
  have h5' := hW.N5
  have hn : vi 3 0 = nI (cN (aCu A)) := hA.2.1.1.1
  refine b_S_forged_0 ?_
  refine c_S_isRow (fun hr => ?_) (fun hr => ?_)
  · rw [inB_t hr, if_pos rfl] at hQ
    obtain ⟨m, hm, rfl⟩ := vp_in_of hr (by decide)
    have cm : (nI m).toNatClampNeg = m := nI_clamp (by omega)
    rw [cm] at hQ
    obtain ⟨e1, e2⟩ := hA.1.1 m hm
    have q0 : (nI (cN (aCu A)) = 0) ↔ cN (aCu A) = 0 := nI_eq (b := 0) (by omega) (by omega)
    by_cases h0 : cN (aCu A) = 0
    · have g : vi 3 0 = 0 := by rw [hn]; exact q0.mpr h0
      rw [if_pos h0] at hQ
      refine b_S_forged_4 (fun h4 => b_S_forged_9 (fun h9 => absurd h9 (by first | decide | assumption | omega | simp_all)) (fun h9 => b_S_forged_19 ?_)) (fun h4 => absurd h4 (by first | decide | assumption | omega | simp_all))
      exact hQ _ _ hA smM_rf
    · have g : ¬ vi 3 0 = 0 := by rw [hn]; exact fun q => h0 (q0.mp q)
      rw [if_neg h0] at hQ
      refine b_S_forged_4 (fun h4 => b_S_forged_9 (fun h9 => b_S_forged_22 ?_) (fun h9 => absurd h9 (by first | decide | assumption | omega | simp_all))) (fun h4 => absurd h4 (by first | decide | assumption | omega | simp_all))
      refine c_S_refuseHistory hW hA hm (fun hz => ?_) (fun f hf h1 h5 => ?_)
      · rw [if_pos hz] at hQ
        refine b_S_forged_27 (fun h27 => b_S_forged_34 ?_) (fun h27 => absurd h27 (by first | decide | assumption | omega | simp_all))
        refine c_P_begin (x := false) (y := false) ?_
        refine b_S_forged_43 ?_
        have key := loop_up (P := fun y => ∀ w, (∀ j, j ≠ 26 → j ≠ 39 → w j = vi j) → w 26 4 = bI false → w 26 5 = bI false → (∀ z, z < y → w 39 z = wanF (aRp A m) z) → wp X (d + 12) k_S_forged 0 0 45 [some (.ref 0), some (.int (nI m)), some (.int 0), some (.int (nI y))] [] (mk w vl) post) (cN (aCu A)) 0 (Nat.zero_le _) ?_ ?_
        · exact key _ (fun j a b => scr_bg a b) bg_4 bg_5 (fun z hz => absurd hz (Nat.not_lt_zero _))
        · intro w hw w4 w5 h39
          have g1 : w 3 0 ≤ nI (cN (aCu A)) := by rw [hw 3 (by omega) (by omega), hn]; exact Int32.le_refl _
          refine b_S_forged_45 (fun h45 => b_S_forged_84 ?_) (fun h45 => absurd h45 (by first | decide | assumption | omega | simp_all))
          refine a_seek (c := aCu A) (wan := wanF (aRp A m)) (wh := false) (pl := false) (most := 1) hW.2.2.1.v (ClV_fr hA.2.1.1.v (fun q _ _ => hw q (by omega) (by omega))) w4 w5 h39 (by omega) (fun u hu _ _ hf => ?_)
          have o2 : ∀ q, (q < 26 ∨ 40 < q) → u q = vi q := fun q hq => by rw [hu q (by omega), hw q (by omega) (by omega)]
          have hA2 : AbC A u vl := AbC_pl hW.L8 hA o2
          have hle := num_le (c := aCu A) (wan := wanF (aRp A m)) (wh := false) (pl := false) (most := 1) h5'
          by_cases hz0 : num (aCu A) (wanF (aRp A m)) false false 1 = 0
          · rw [if_pos hz0] at hQ
            rw [hz0] at hQ ⊢
            refine b_S_forged_96 (fun h96 => absurd h96 (by first | decide | assumption | omega | simp_all)) (fun h96 => b_S_forged_102 (b_S_forged_118 (fun w118 hw118 => b_S_forged_121 ?_)))
            rw [hw118]
            exact hQ _ _ (AbC_ak hW.L8 hA2 _) (smM_of fun q hq => by rw [up2_n (by omega)]; exact o2 q (by omega))
          · rw [if_neg hz0] at hQ
            have g2 : ¬ nI (num (aCu A) (wanF (aRp A m)) false false 1) = 0 := nI_ne0 (by omega) (by omega)
            refine b_S_forged_96 (fun h96 => b_S_forged_107 ?_) (fun h96 => absurd h96 (by first | decide | assumption | omega | simp_all))
            refine c_S_firstChanged (n := cN (aCu A)) (p := dgc (cN (aCu A)) (fst (aCu A) (wanF (aRp A m)) false false 1)) (by rw [o2 3 (by omega)]; exact hn) h5' (fun y _ => dgc_7) (hf (by omega)) ?_
            refine b_S_forged_118 (fun w118 hw118 => b_S_forged_121 ?_)
            rw [hw118]
            exact hQ _ _ (AbC_ak hW.L8 hA2 _) (smM_of fun q hq => by rw [up2_n (by omega)]; exact o2 q (by omega))
        · intro y _ hy ih w hw w4 w5 h39
          have g1 : ¬ w 3 0 ≤ nI y := by rw [hw 3 (by omega) (by omega), hn]; exact nI_ge hy (by omega)
          have cy : (nI y).toNatClampNeg = y := nI_clamp (by omega)
          have vy : vp_in (nI y) (rl (42 + 2 * (nI m).toNatClampNeg)) := by rw [cm, rl_r hm]; exact vp_in_nI (by omega) (by omega)
          refine b_S_forged_45 (fun h45 => absurd h45 (by first | decide | assumption | omega | simp_all)) (fun h45 => b_S_forged_56 (by first | assumption | decide | (refine vp_in_nI ?_ ?_ <;> omega) | omega | simp_all) (by first | assumption | decide | (refine vp_in_nI ?_ ?_ <;> omega) | omega | simp_all) ?_)
          rw [cm, cy]
          refine c_S_happeningBit ?_
          refine b_S_forged_75 ?_
          refine c_P_want (by omega) ?_
          refine b_S_forged_78 ?_
          rw [nI_1]
          refine ih _ (fun j a b => by rw [up2_n b]; exact hw j a b) (by rw [up2_n (by decide)]; exact w4) (by rw [up2_n (by decide)]; exact w5) (fun z hz => ?_)
          rw [up2_s]
          by_cases hzy : z = y
          · subst hzy; rw [vau_s]; unfold wanF
            rw [hw _ (by omega) (by omega), show 42 + 2 * m + 1 = 43 + 2 * m by omega, e2 z (by omega)]
          · rw [vau_n hzy]; exact h39 z (by omega)
      · rw [if_neg (by omega), hf] at hQ
        refine b_S_forged_27 (fun h27 => absurd h27 (by first | decide | assumption | omega | simp_all)) (fun h27 => b_S_forged_32 ?_)
        exact hQ _ _ (AbC_fd hW.L8 hA h1 h5) smM_rfM
  · rw [inB_f hr, if_neg (fun q => by cases q)] at hQ
    refine b_S_forged_4 (fun h4 => absurd h4 (by first | decide | assumption | omega | simp_all)) (fun h4 => b_S_forged_7 ?_)
    exact hQ _ _ hA smM_rf
end S39
/-! lots -/
def lotX (x : Nat) : Nat := x * 48271 % 2147483647
def lotS (c : Cl) (x : Nat) : Cl := stc c (x % cN c) (if cW c (x % cN c) = 1 then 5 else x / 32 % 5)
def lotR : Nat → Cl → Nat → Cl
  | 0, c, _ => c
  | n + 1, c, x => lotR n (lotS c (lotX x)) (lotX x)
def oLots (A : aA) (n s : Int32) : Int32 × aA := if (1 ≤ n.toInt ∧ n.toInt ≤ 10) ∧ (1 ≤ s.toInt ∧ s.toInt ≤ 2147483646) then (if cN (aCu A) = 0 then (-4, A) else if 40 < cT (aCu A) + n.toNatClampNeg then (-2, A) else (nI (pop (brb (lotR (n.toNatClampNeg) (aCu A) (s.toNatClampNeg)))), tCu A (lotR (n.toNatClampNeg) (aCu A) (s.toNatClampNeg)))) else (-1, A)
theorem stc_wf {c : Cl} {y ch : Nat} (hw : wfC c) (ht : cT c < 40) (hc : (cW c y = 1 ∧ ch = 5) ∨ (¬ cW c y = 1 ∧ ch < 5)) (hy : y < cN c) : wfC (stc c y ch) := by
  obtain ⟨h1, h2, h3, h4, h5, h6⟩ := hw
  refine ⟨h1, h2, show cT c + 1 ≤ 40 by omega, fun z hz => ?_, h5, fun i hi z hz => ?_⟩
  · show wfY (va_up (cW c) y (chW (cW c y) ch) z) (va_up (cS c) y (chS (cS c y) ch) z)
    by_cases hzy : z = y
    · subst hzy; rw [vau_s, vau_s]
      unfold chW chS
      rcases hc with ⟨a, b⟩ | ⟨a, b⟩
      · rw [if_pos b, if_pos b]
        rcases h4 z hz with q | q
        · rw [q.1] at a; exact absurd a (by decide)
        · exact Or.inr ⟨Or.inr rfl, q.2⟩
      · rw [if_neg (by omega), if_neg (by omega), if_neg (by omega), if_neg (by omega)]
        exact Or.inr ⟨Or.inl rfl, vp_in_nI b (by omega)⟩
    · rw [vau_n hzy, vau_n hzy]; exact h4 z hz
  · have hi : i < cT c + 1 := hi
    show wfY (va_up (cHW c) (cT c) (cW c) i z) (va_up (cHS c) (cT c) (cS c) i z)
    by_cases hit : i = cT c
    · subst hit; rw [vau_s, vau_s]; exact h4 z hz
    · rw [vau_n hit, vau_n hit]; exact h6 i (by omega) z hz
