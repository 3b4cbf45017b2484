/-! counts, and the digest -/
def cntT (A : aA) (what : Int32) : Int32 :=
  if what = 0 then nI (cN (aCu A)) else if what = 1 then nI (cL (aCu A)) else if what = 2 then nI (cT (aCu A)) else if what = 3 then nI (pop (ysT (aCu A) 2)) else if what = 4 then nI (pop (ysS (aCu A))) else if what = 5 then nI (cn (fun k => isK (cK (aCu A)) k 1) (cL (aCu A)))
  else if what = 6 then nI (cn (fun r => !decide (aRs A r = -1)) 6) else if what = 7 then nI (cn (fun t => !decide (aTs A t = -1)) 4) else if what = 8 then nI (cn (fun k => (aKp A k).isSome) 3) else -1
def fdP (f : Nat → Int32) : Nat → Int64 → Int64
  | 0, h => h
  | n + 1, h => 31 * fdP f n h + (f n).toInt64
def fdR (s : Nat → Int32) (p : Nat → Nat → Int32) : Nat → Int64 → Int64
  | 0, h => h
  | n + 1, h => fdP (p n) ((s n).toNatClampNeg) (31 * fdR s p n h + (s n).toInt64)
def fdY (c : Cl) : Nat → Int64 → Int64
  | 0, h => h
  | n + 1, h => fdP (fun w => yrT c n (nI w)) 3 (fdY c n h)
def fdL (c : Cl) : Nat → Int64 → Int64
  | 0, h => h
  | n + 1, h => fdP (fun w => lwT c n (nI w)) 4 (fdL c n h)
def kpT (A : aA) (k : Nat) : Int32 := match aKp A k with | none => -1 | some c => nI (cT c)
def digT (A : aA) : Int64 := fdR (aTs A) (aTp A) 4 (fdR (aRs A) (aRp A) 6 (fdP (kpT A) 3 (fdL (aCu A) (cL (aCu A)) (fdY (aCu A) (cN (aCu A)) (fdP (fun w => cntT A (nI w)) 9 17)))))
theorem fdP_cg {f g : Nat → Int32} {h : Int64} : ∀ n, (∀ k, k < n → f k = g k) → fdP f n h = fdP g n h
  | 0, _ => rfl
  | n + 1, hk => by simp only [fdP]; rw [fdP_cg n (fun k h => hk k (by omega)), hk n (by omega)]
theorem cn_t {p : Nat → Bool} {n : Nat} (h : p n = true) : cn p (n + 1) = cn p n + 1 := by show cn p n + (if p n then 1 else 0) = _; simp [h]
theorem cn_f {p : Nat → Bool} {n : Nat} (h : p n = false) : cn p (n + 1) = cn p n := by show cn p n + (if p n then 1 else 0) = _; simp [h]
section S41
variable {X : aX} {d : Nat} {vi : Nat → Nat → Int32} {vl : Nat → Nat → Int64} {post : aO} {A : aA}
theorem c_S_thatAreThere {v : Nat} (hv : isRA v) (hQ : post (some (.int (nI (cn (fun i => !decide (vi (re v i) 1 = -1)) (rn v))))) (mk vi vl)) : CallOk X (d + 2) 0 0 k_S_thatAreThere [.ref v] (mk vi vl) post := by
  refine CallOk.intro (by decide +kernel) rfl (Nat.le_of_ble_eq_true rfl) ?_
  have hrn : rn v ≤ 6 := by unfold rn; by_cases h : v = 1 <;> simp [h]
  have hri : ∀ i, i < rn v → isRw (re v i) := fun i hi => by
    unfold isRw re; unfold rn at hi; rcases hv with rfl | rfl
    · rw [if_pos rfl] at hi; omega
    · rw [if_neg (by decide)] at hi; omega
  refine b_S_thatAreThere_0 ?_
  have key := loop_up (P := fun j => wp X (d + 2) k_S_thatAreThere 0 0 4 [some (.ref v), some (.int (nI (cn (fun i => !decide (vi (re v i) 1 = -1)) j))), some (.int (nI j))] [] (mk vi vl) post) (rn v) 0 (Nat.zero_le _) ?_ ?_
  · exact key
  · have g1 : ¬ ¬ Int32.ofNat (rn v) ≤ nI (rn v) := fun q => q (Int32.le_refl _)
    refine b_S_thatAreThere_4 (by first | assumption | decide | (refine vp_in_nI ?_ ?_ <;> omega) | omega | simp_all) (fun h4 => b_S_thatAreThere_33 ?_) (fun h4 => absurd h4 (by first | decide | assumption | omega | simp_all))
    exact hQ
  · intro j _ hj ih
    have g1 : ¬ Int32.ofNat (rn v) ≤ nI j := nI_ge hj (by omega)
    have cj : (nI j).toNatClampNeg = j := nI_clamp (by omega)
    have vj : vp_in (nI j) (rn v) := vp_in_nI hj (by omega)
    refine b_S_thatAreThere_4 (by first | assumption | decide | (refine vp_in_nI ?_ ?_ <;> omega) | omega | simp_all) (fun h4 => absurd h4 (by first | decide | assumption | omega | simp_all)) (fun h4 => b_S_thatAreThere_10 (by first | assumption | decide | (refine vp_in_nI ?_ ?_ <;> omega) | omega | simp_all) (by first | assumption | decide | (refine vp_in_nI ?_ ?_ <;> omega) | omega | simp_all) ?_)
    rw [cj]
    refine c_R_isMissing (hri j hj) (fun h => ?_) (fun h => ?_)
    · rw [cn_f (show (!decide (vi (re v j) 1 = -1)) = false by rw [decide_eq_true h]; rfl)] at ih
      refine b_S_thatAreThere_17 (fun h17 => absurd h17 (by first | decide | assumption | omega | simp_all)) (fun h17 => b_S_thatAreThere_20 (b_S_thatAreThere_25 ?_))
      rw [nI_1, Int32.add_zero]
      exact ih
    · rw [cn_t (show (!decide (vi (re v j) 1 = -1)) = true by rw [decide_eq_false h]; rfl)] at ih
      refine b_S_thatAreThere_17 (fun h17 => b_S_thatAreThere_24 (b_S_thatAreThere_25 ?_)) (fun h17 => absurd h17 (by first | decide | assumption | omega | simp_all))
      rw [nI_1, nI_1]
      exact ih
theorem c_S_keptCloths (hW : wfA A) (hA : AbC A vi vl) (hQ : post (some (.int (nI (cn (fun k => (aKp A k).isSome) 3)))) (mk vi vl)) : CallOk X (d + 1) 0 0 k_S_keptCloths [.ref 0] (mk vi vl) post := by
  refine CallOk.intro (by decide +kernel) rfl (Nat.le_of_ble_eq_true rfl) ?_
  refine b_S_keptCloths_0 ?_
  have key := loop_up (P := fun j => wp X (d + 1) k_S_keptCloths 0 0 4 [some (.ref 0), some (.int (nI (cn (fun k => (aKp A k).isSome) j))), some (.int (nI j))] [] (mk vi vl) post) 3 0 (Nat.zero_le _) ?_ ?_
  · exact key
  · have g1 : ¬ ¬ (3 : Int32) ≤ nI 3 := by decide
    refine b_S_keptCloths_4 (fun h4 => b_S_keptCloths_35 ?_) (fun h4 => absurd h4 (by first | decide | assumption | omega | simp_all))
    exact hQ
  · intro j _ hj ih
    have g1 : ¬ (3 : Int32) ≤ nI j := nI_ge (a := j) (b := 3) hj (by omega)
    have cj : (nI j).toNatClampNeg = j := nI_clamp (by omega)
    have vj : vp_in (nI j) 3 := vp_in_nI hj (by omega)
    have hk := hA.2.2.1 j hj
    cases he : aKp A j with
    | none =>
      rw [he] at hk
      rw [cn_f (show (aKp A j).isSome = false by rw [he]; rfl)] at ih
      have g2 : ¬ ¬ vi (62 + 11 * (nI j).toNatClampNeg) 0 = 0 := fun q => q (by rw [cj]; exact hk)
      refine b_S_keptCloths_4 (fun h4 => absurd h4 (by first | decide | assumption | omega | simp_all)) (fun h4 => b_S_keptCloths_9 (by first | assumption | decide | (refine vp_in_nI ?_ ?_ <;> omega) | omega | simp_all) (fun h9 => absurd h9 (by first | decide | assumption | omega | simp_all)) (fun h9 => b_S_keptCloths_22 (b_S_keptCloths_27 ?_)))
      rw [nI_1, Int32.add_zero]
      exact ih
    | some c =>
      rw [he] at hk
      rw [cn_t (show (aKp A j).isSome = true by rw [he]; rfl)] at ih
      obtain ⟨hc, -⟩ := hW.2.2.2.1 j c hj he
      have hn5 := hc.1
      have g2 : ¬ vi (62 + 11 * (nI j).toNatClampNeg) 0 = 0 := by rw [cj, hk.1.1]; exact nI_ne0 hk.2 (by omega)
      refine b_S_keptCloths_4 (fun h4 => absurd h4 (by first | decide | assumption | omega | simp_all)) (fun h4 => b_S_keptCloths_9 (by first | assumption | decide | (refine vp_in_nI ?_ ?_ <;> omega) | omega | simp_all) (fun h9 => b_S_keptCloths_26 (b_S_keptCloths_27 ?_)) (fun h9 => absurd h9 (by first | decide | assumption | omega | simp_all)))
      rw [nI_1, nI_1]
      exact ih
theorem c_S_count {what : Int32} (hW : wfA A) (hA : AbC A vi vl) (hQ : post (some (.int (cntT A what))) (mk vi vl)) : CallOk X (d + 4) 0 0 k_S_count [.ref 0, .int what] (mk vi vl) post := by
  refine CallOk.intro (by decide +kernel) rfl (Nat.le_of_ble_eq_true rfl) ?_
  have h5' := hW.N5
  have h8' := hW.L8
  have hv := hW.2.2.1.v
  unfold cntT at hQ
  refine b_S_count_0 ?_
  refine ⟨fun h => ?_, fun h0 => ⟨fun h => ?_, fun h1 => ⟨fun h => ?_, fun h2 => ⟨fun h => ?_, fun h3 => ⟨fun h => ?_, fun h4 => ⟨fun h => ?_, fun h5 => ⟨fun h => ?_, fun h6 => ⟨fun h => ?_, fun h7 => ⟨fun h => ?_, fun h8 => ?_⟩⟩⟩⟩⟩⟩⟩⟩⟩
  · refine b_S_count_52 ?_
    rw [if_pos h] at hQ
    rw [hA.2.1.1.1]; exact hQ
  · refine b_S_count_60 ?_
    rw [if_neg h0, if_pos h] at hQ
    rw [hA.2.1.1.2.1]; exact hQ
  · refine b_S_count_68 ?_
    rw [if_neg h0, if_neg h1, if_pos h] at hQ
    rw [hA.2.1.1.2.2.1]; exact hQ
  · refine b_S_count_76 ?_
    rw [if_neg h0, if_neg h1, if_neg h2, if_pos h] at hQ
    refine a_yearsThatAre isCl_3 hv hA.2.1.1.v ?_
    have := ysT_32 (c := aCu A) (s := 2) h5'
    refine b_S_count_84 ?_
    refine c_J_bitCount (by omega) ?_
    refine b_S_count_87 ?_
    exact hQ
  · refine b_S_count_88 ?_
    rw [if_neg h0, if_neg h1, if_neg h2, if_neg h3, if_pos h] at hQ
    refine a_yearsWithSomething isCl_3 hv hA.2.1.1.v hA.2.1.2 ?_
    have := ysS_32 (c := aCu A) h5'
    refine b_S_count_95 ?_
    refine c_J_bitCount (by omega) ?_
    refine b_S_count_98 ?_
    exact hQ
  · refine b_S_count_99 ?_
    rw [if_neg h0, if_neg h1, if_neg h2, if_neg h3, if_neg h4, if_pos h] at hQ
    refine c_C_lawsOfKind isCl_3 hA.2.1.1.2.1 h8' (V_kd hv hA.2.1.1.v) ?_
    refine b_S_count_107 ?_
    rw [cn_cg (q := fun k => isK (cK (aCu A)) k 1) (cL (aCu A)) (fun k hk => by unfold isK; rw [(hA.2.1.1.2.2.2.2.1 k hk).1])]
    exact hQ
  · refine b_S_count_108 ?_
    rw [if_neg h0, if_neg h1, if_neg h2, if_neg h3, if_neg h4, if_neg h5, if_pos h] at hQ
    refine c_S_thatAreThere (Or.inl rfl) ?_
    refine b_S_count_115 ?_
    rw [cn_cg (q := fun r => !decide (aRs A r = -1)) (rn 1) (fun r hr => by rw [show re 1 r = 42 + 2 * r by unfold re; omega, (hA.1.1 r hr).1])]
    exact hQ
  · refine b_S_count_116 ?_
    rw [if_neg h0, if_neg h1, if_neg h2, if_neg h3, if_neg h4, if_neg h5, if_neg h6, if_pos h] at hQ
    refine c_S_thatAreThere (Or.inr rfl) ?_
    refine b_S_count_123 ?_
    rw [cn_cg (q := fun t => !decide (aTs A t = -1)) (rn 2) (fun r hr => by rw [show re 2 r = 54 + 2 * r by unfold re; omega, (hA.1.2 r hr).1])]
    exact hQ
  · refine b_S_count_124 ?_
    rw [if_neg h0, if_neg h1, if_neg h2, if_neg h3, if_neg h4, if_neg h5, if_neg h6, if_neg h7, if_pos h] at hQ
    refine c_S_keptCloths hW hA ?_
    refine b_S_count_128 ?_
    exact hQ
  · show wp X (d + 4) k_S_count 0 0 129 _ _ _ _
    refine b_S_count_129 ?_
    rw [if_neg h0, if_neg h1, if_neg h2, if_neg h3, if_neg h4, if_neg h5, if_neg h6, if_neg h7, if_neg h8] at hQ
    exact hQ
theorem s_count {what : Int32} (hW : wfA A) (hA : AbC A vi vl) (hQ : PC vi vl post (cntT A what, A)) : CallOk X (d + 4) 0 0 k_S_count [.ref 0, .int what] (mk vi vl) post := c_S_count hW hA (hQ _ _ hA smM_rf)
theorem c_S_foldRows {v : Nat} {h : Int64} {s : Nat → Int32} {p : Nat → Nat → Int32} (hv : isRA v) (hs : ∀ i, i < rn v → vi (re v i) 1 = s i ∧ (s i = -1 ∨ ∃ n, n ≤ rl (re v i) ∧ s i = nI n) ∧ ∀ k, k < rl (re v i) → vi (re v i + 1) k = p i k) (hQ : post (some (.long (fdR s p (rn v) h))) (mk vi vl)) : CallOk X (d + 1) 0 0 k_S_foldRows [.long h, .ref v] (mk vi vl) post := by
  refine CallOk.intro (by decide +kernel) rfl (Nat.le_of_ble_eq_true rfl) ?_
  have hrn : rn v ≤ 6 := by unfold rn; by_cases h : v = 1 <;> simp [h]
  have hri : ∀ i, i < rn v → isRw (re v i) := fun i hi => by
    unfold isRw re; unfold rn at hi; rcases hv with rfl | rfl
    · rw [if_pos rfl] at hi; omega
    · rw [if_neg (by decide)] at hi; omega
  refine b_S_foldRows_0 ?_
  have key := loop_up (P := fun j => ∀ l4 l5, wp X (d + 1) k_S_foldRows 0 0 2 [some (.long (fdR s p j h)), none, some (.ref v), some (.int (nI j)), l4, l5] [] (mk vi vl) post) (rn v) 0 (Nat.zero_le _) ?_ ?_
  · exact key _ _
  · intro l4 l5
    have g1 : ¬ ¬ Int32.ofNat (rn v) ≤ nI (rn v) := fun q => q (Int32.le_refl _)
    refine b_S_foldRows_2 (by first | assumption | decide | (refine vp_in_nI ?_ ?_ <;> omega) | omega | simp_all) (fun h2 => b_S_foldRows_67 ?_) (fun h2 => absurd h2 (by first | decide | assumption | omega | simp_all))
    exact hQ
  · intro j _ hj ih l4 l5
    have g1 : ¬ Int32.ofNat (rn v) ≤ nI j := nI_ge hj (by omega)
    have cj : (nI j).toNatClampNeg = j := nI_clamp (by omega)
    have vj : vp_in (nI j) (rn v) := vp_in_nI hj (by omega)
    obtain ⟨e1, e2, e3⟩ := hs j hj
    have hR := hri j hj
    have hrl := rl_le (re v j)
    simp only [fdR] at ih
    refine b_S_foldRows_2 (by first | assumption | decide | (refine vp_in_nI ?_ ?_ <;> omega) | omega | simp_all) (fun h2 => absurd h2 (by first | decide | assumption | omega | simp_all)) (fun h2 => b_S_foldRows_8 (by first | assumption | decide | (refine vp_in_nI ?_ ?_ <;> omega) | omega | simp_all) (by first | assumption | decide | (refine vp_in_nI ?_ ?_ <;> omega) | omega | simp_all) ?_)
    rw [cj, e1]
    obtain ⟨n, hn, en⟩ : ∃ n, n ≤ rl (re v j) ∧ (s j).toNatClampNeg = n := by
      rcases e2 with q | ⟨n, hn, q⟩
      · exact ⟨0, Nat.zero_le _, by rw [q]; rfl⟩
      · exact ⟨n, hn, by rw [q]; exact nI_clamp (by omega)⟩
    have hle : ∀ k, k < n → ¬ s j ≤ nI k := fun k hk => by
      rcases e2 with q | ⟨m, hm, q⟩
      · rw [q] at en; have : n = 0 := en.symm; omega
      · rw [q] at en ⊢; rw [nI_clamp (by omega)] at en; exact nI_ge (by omega) (by omega)
    have hge : s j ≤ nI n := by
      rcases e2 with q | ⟨m, hm, q⟩
      · rw [q] at en ⊢; have : n = 0 := en.symm; subst this; decide
      · rw [q] at en ⊢; rw [nI_clamp (by omega)] at en; exact nI_le (by omega) (by omega)
    rw [en] at ih
    have key2 := loop_up (P := fun k => wp X (d + 1) k_S_foldRows 0 0 29 [some (.long (fdP (p j) k (31 * fdR s p j h + (s j).toInt64))), none, some (.ref v), some (.int (nI j)), some (.ref (re v j)), some (.int (nI k))] [] (mk vi vl) post) n 0 (Nat.zero_le _) ?_ ?_
    · exact key2
    · have g2 : ¬ ¬ vi (re v j) 1 ≤ nI n := fun q => q (by rw [e1]; exact hge)
      refine b_S_foldRows_29 (by first | assumption | decide | (refine vp_in_nI ?_ ?_ <;> omega) | omega | simp_all) (fun h29 => b_S_foldRows_61 ?_) (fun h29 => absurd h29 (by first | decide | assumption | omega | simp_all))
      rw [nI_1]
      exact ih _ _
    · intro k _ hk ih2
      have g2 : ¬ vi (re v j) 1 ≤ nI k := by rw [e1]; exact hle k hk
      have ck : (nI k).toNatClampNeg = k := nI_clamp (by omega)
      have vk : vp_in (nI k) (rl (re v j)) := vp_in_nI (by omega) (by omega)
      simp only [fdP] at ih2
      refine b_S_foldRows_29 (by first | assumption | decide | (refine vp_in_nI ?_ ?_ <;> omega) | omega | simp_all) (fun h29 => absurd h29 (by first | decide | assumption | omega | simp_all)) (fun h29 => b_S_foldRows_39 (by first | assumption | decide | (refine vp_in_nI ?_ ?_ <;> omega) | omega | simp_all) (by first | assumption | decide | (refine vp_in_nI ?_ ?_ <;> omega) | omega | simp_all) ?_)
      rw [nI_1, ck, e3 k (by omega)]
      exact ih2
theorem s_digest (hW : wfA A) (hA : AbC A vi vl) (hQ : PL vi vl post (digT A, A)) : CallOk X (d + 5) 0 0 k_S_digest [.ref 0] (mk vi vl) post := by
  refine CallOk.intro (by decide +kernel) rfl (Nat.le_of_ble_eq_true rfl) ?_
  have h5' := hW.N5
  have h8' := hW.L8
  have hn : vi 3 0 = nI (cN (aCu A)) := hA.2.1.1.1
  have hl : vi 3 3 = nI (cL (aCu A)) := hA.2.1.1.2.1
  replace hQ := hQ _ _ hA smM_rf
  unfold digT at hQ
  refine b_S_digest_0 ?_
  have key := loop_up (P := fun j => wp X (d + 5) k_S_digest 0 0 6 [some (.ref 0), some (.long (fdP (fun w => cntT A (nI w)) j 17)), none, some (.int (nI j)), none] [] (mk vi vl) post) 9 0 (Nat.zero_le _) ?_ ?_
  · exact key
  · have g1 : ¬ ¬ (9 : Int32) ≤ nI 9 := by decide
    refine b_S_digest_6 (fun h6 => b_S_digest_31 ?_) (fun h6 => absurd h6 (by first | decide | assumption | omega | simp_all))
    have key := loop_up (P := fun j => ∀ l4, wp X (d + 5) k_S_digest 0 0 33 [some (.ref 0), some (.long (fdY (aCu A) j (fdP (fun w => cntT A (nI w)) 9 17))), none, some (.int (nI j)), l4] [] (mk vi vl) post) (cN (aCu A)) 0 (Nat.zero_le _) ?_ ?_
    · exact key _
    · intro l4
      have g1 : ¬ ¬ vi 3 0 ≤ nI (cN (aCu A)) := fun q => q (by rw [hn]; exact Int32.le_refl _)
      refine b_S_digest_33 (fun h33 => b_S_digest_80 ?_) (fun h33 => absurd h33 (by first | decide | assumption | omega | simp_all))
      have key := loop_up (P := fun j => ∀ l4, wp X (d + 5) k_S_digest 0 0 82 [some (.ref 0), some (.long (fdL (aCu A) j (fdY (aCu A) (cN (aCu A)) (fdP (fun w => cntT A (nI w)) 9 17)))), none, some (.int (nI j)), l4] [] (mk vi vl) post) (cL (aCu A)) 0 (Nat.zero_le _) ?_ ?_
      · exact key _
      · intro l4
        have g1 : ¬ ¬ vi 3 3 ≤ nI (cL (aCu A)) := fun q => q (by rw [hl]; exact Int32.le_refl _)
        refine b_S_digest_82 (fun h82 => b_S_digest_129 ?_) (fun h82 => absurd h82 (by first | decide | assumption | omega | simp_all))
        have key := loop_up (P := fun j => wp X (d + 5) k_S_digest 0 0 131 [some (.ref 0), some (.long (fdP (kpT A) j (fdL (aCu A) (cL (aCu A)) (fdY (aCu A) (cN (aCu A)) (fdP (fun w => cntT A (nI w)) 9 17))))), none, some (.int (nI j)), l4] [] (mk vi vl) post) 3 0 (Nat.zero_le _) ?_ ?_
        · exact key
        · have g1 : ¬ ¬ (3 : Int32) ≤ nI 3 := by decide
          refine b_S_digest_131 (fun h131 => b_S_digest_175 ?_) (fun h131 => absurd h131 (by first | decide | assumption | omega | simp_all))
          refine c_S_foldRows (s := aRs A) (p := aRp A) (Or.inl rfl) (fun i hi => ?_) ?_
          · have hi : i < 6 := hi
            rw [show re 1 i = 42 + 2 * i by unfold re; omega, rl_r hi, show 42 + 2 * i + 1 = 43 + 2 * i by omega]
            exact ⟨(hA.1.1 i hi).1, hW.1 i hi, (hA.1.1 i hi).2⟩
          · refine b_S_digest_183 ?_
            refine c_S_foldRows (s := aTs A) (p := aTp A) (Or.inr rfl) (fun i hi => ?_) ?_
            · have hi : i < 4 := hi
              rw [show re 2 i = 54 + 2 * i by unfold re; omega, rl_t, show 54 + 2 * i + 1 = 55 + 2 * i by omega]
              exact ⟨(hA.1.2 i hi).1, hW.2.1 i hi, (hA.1.2 i hi).2⟩
            · refine b_S_digest_190 ?_
              exact hQ
        · intro j _ hj ih
          have g1 : ¬ (3 : Int32) ≤ nI j := nI_ge (a := j) (b := 3) hj (by omega)
          have cj : (nI j).toNatClampNeg = j := nI_clamp (by omega)
          have vj : vp_in (nI j) 3 := vp_in_nI hj (by omega)
          have hk := hA.2.2.1 j hj
          rw [show fdP (kpT A) (j + 1) (fdL (aCu A) (cL (aCu A)) (fdY (aCu A) (cN (aCu A)) (fdP (fun w => cntT A (nI w)) 9 17))) = 31 * fdP (kpT A) j (fdL (aCu A) (cL (aCu A)) (fdY (aCu A) (cN (aCu A)) (fdP (fun w => cntT A (nI w)) 9 17))) + (kpT A j).toInt64 from rfl] at ih
          unfold kpT at ih
          cases he : aKp A j with
          | none =>
            rw [he] at hk
            simp only [he] at ih
            have g2 : ¬ ¬ vi (62 + 11 * (nI j).toNatClampNeg) 0 = 0 := fun q => q (by rw [cj]; exact hk)
            refine b_S_digest_131 (fun h131 => absurd h131 (by first | decide | assumption | omega | simp_all)) (fun h131 => b_S_digest_136 (by first | assumption | decide | (refine vp_in_nI ?_ ?_ <;> omega) | omega | simp_all) (fun h136 => absurd h136 (by first | decide | assumption | omega | simp_all)) (fun h136 => b_S_digest_153 (b_S_digest_166 ?_)))
            rw [nI_1]
            exact ih
          | some c =>
            rw [he] at hk
            simp only [he] at ih
            obtain ⟨hc, -⟩ := hW.2.2.2.1 j c hj he
            have hn5 := hc.1
            have g2 : ¬ vi (62 + 11 * (nI j).toNatClampNeg) 0 = 0 := by rw [cj, hk.1.1]; exact nI_ne0 hk.2 (by omega)
            refine b_S_digest_131 (fun h131 => absurd h131 (by first | decide | assumption | omega | simp_all)) (fun h131 => b_S_digest_136 (by first | assumption | decide | (refine vp_in_nI ?_ ?_ <;> omega) | omega | simp_all) (fun h136 => b_S_digest_157 (by first | assumption | decide | (refine vp_in_nI ?_ ?_ <;> omega) | omega | simp_all) (b_S_digest_166 ?_)) (fun h136 => absurd h136 (by first | decide | assumption | omega | simp_all)))
            rw [nI_1, cj, hk.1.2.2.1]
            exact ih
      · intro j _ hj ih l4
        have g1 : ¬ vi 3 3 ≤ nI j := by rw [hl]; exact nI_ge hj (by omega)
        refine b_S_digest_82 (fun h82 => absurd h82 (by first | decide | assumption | omega | simp_all)) (fun h82 => b_S_digest_93 ?_)
        have key2 := loop_up (P := fun k => wp X (d + 5) k_S_digest 0 0 96 [some (.ref 0), some (.long (fdP (fun w => lwT (aCu A) j (nI w)) k (fdL (aCu A) j (fdY (aCu A) (cN (aCu A)) (fdP (fun w => cntT A (nI w)) 9 17))))), none, some (.int (nI j)), some (.int (nI k))] [] (mk vi vl) post) 4 0 (Nat.zero_le _) ?_ ?_
        · exact key2
        · have g2 : (3 : Int32) < nI 4 := by decide
          refine b_S_digest_96 (fun h96 => b_S_digest_123 ?_) (fun h96 => absurd h96 (by first | decide | assumption | omega | simp_all))
          rw [nI_1]
          exact ih _
        · intro k _ hk ih2
          have g2 : ¬ (3 : Int32) < nI k := nI_nlt (a := 3) (b := k) (by omega) (by omega)
          simp only [fdP] at ih2
          refine b_S_digest_96 (fun h96 => absurd h96 (by first | decide | assumption | omega | simp_all)) (fun h96 => b_S_digest_102 ?_)
          refine c_S_ofLaw hW hA hj ?_
          refine b_S_digest_114 ?_
          rw [nI_1]
          exact ih2
    · intro j _ hj ih l4
      have g1 : ¬ vi 3 0 ≤ nI j := by rw [hn]; exact nI_ge hj (by omega)
      refine b_S_digest_33 (fun h33 => absurd h33 (by first | decide | assumption | omega | simp_all)) (fun h33 => b_S_digest_44 ?_)
      have key2 := loop_up (P := fun k => wp X (d + 5) k_S_digest 0 0 47 [some (.ref 0), some (.long (fdP (fun w => yrT (aCu A) j (nI w)) k (fdY (aCu A) j (fdP (fun w => cntT A (nI w)) 9 17)))), none, some (.int (nI j)), some (.int (nI k))] [] (mk vi vl) post) 3 0 (Nat.zero_le _) ?_ ?_
      · exact key2
      · have g2 : (2 : Int32) < nI 3 := by decide
        refine b_S_digest_47 (fun h47 => b_S_digest_74 ?_) (fun h47 => absurd h47 (by first | decide | assumption | omega | simp_all))
        rw [nI_1]
        exact ih _
      · intro k _ hk ih2
        have g2 : ¬ (2 : Int32) < nI k := nI_nlt (a := 2) (b := k) (by omega) (by omega)
        refine b_S_digest_47 (fun h47 => absurd h47 (by first | decide | assumption | omega | simp_all)) (fun h47 => b_S_digest_53 ?_)
        refine c_S_ofYear hW hA hj ?_
        refine b_S_digest_65 ?_
        rw [nI_1]
        exact ih2
  · intro j _ hj ih
    have g1 : ¬ (9 : Int32) ≤ nI j := nI_ge (a := j) (b := 9) hj (by omega)
    refine b_S_digest_6 (fun h6 => absurd h6 (by first | decide | assumption | omega | simp_all)) (fun h6 => b_S_digest_12 ?_)
    refine c_S_count hW hA ?_
    refine b_S_digest_22 ?_
    rw [nI_1]
    exact ih
end S41
