/-! counts, and the digest -/
def cntT (A : aA) (what : Int32) : Int32 :=
  if what = 0 then nI (cN (aCu A)) else if what = 1 then nI (cL (aCu A)) else if what = 2 then nI (cT (aCu A)) else if what = 3 then nI (pop (ysT (aCu A) 2)) else if what = 4 then nI (pop (ysS (aCu A))) else if what = 5 then nI (cn (fun k => isK (cK (aCu A)) k 1) (cL (aCu A)))
  else if what = 6 then nI (cn (fun r => !decide (aRs A r = -1)) 6) else if what = 7 then nI (cn (fun t => !decide (aTs A t = -1)) 4) else if what = 8 then nI (cn (fun k => (aKp A k).isSome) 3) else -1
def fdP (f : Nat → Int32) : Nat → Int64 → Int64
  | 0, h => h
  | n + 1, h => 31 * fdP f n h + (f n).toInt64
def fdR (s : Nat → Int32) (p : Nat → Nat → Int32) : Nat → Int64 → Int64
  | 0, h => h
  | n + 1, h => fdP (p n) ((s n).toNatClampNeg) (31 * fdR s p n h + (s n).toInt64)
def fdY (c : Cl) : Nat → Int64 → Int64
  | 0, h => h
  | n + 1, h => fdP (fun w => yrT c n (nI w)) 3 (fdY c n h)
def fdL (c : Cl) : Nat → Int64 → Int64
  | 0, h => h
  | n + 1, h => fdP (fun w => lwT c n (nI w)) 4 (fdL c n h)
def kpT (A : aA) (k : Nat) : Int32 := match aKp A k with | none => -1 | some c => nI (cT c)
def digT (A : aA) : Int64 := fdR (aTs A) (aTp A) 4 (fdR (aRs A) (aRp A) 6 (fdP (kpT A) 3 (fdL (aCu A) (cL (aCu A)) (fdY (aCu A) (cN (aCu A)) (fdP (fun w => cntT A (nI w)) 9 17)))))
theorem fdP_cg {f g : Nat → Int32} {h : Int64} : ∀ n, (∀ k, k < n → f k = g k) → fdP f n h = fdP g n h
  | 0, _ => rfl
  | n + 1, hk => by simp only [fdP]; rw [fdP_cg n (fun k h => hk k (by omega)), hk n (by omega)]
section S41
variable {X : aX} {d : Nat} {vi : Nat → Nat → Int32} {vl : Nat → Nat → Int64} {post : aO} {A : aA}
theorem c_S_thatAreThere {v : Nat} (hv : isRA v) (hQ : post (some (.int (nI (cn (fun i => !decide (vi (re v i) 1 = -1)) (rn v))))) (mk vi vl)) : CallOk X (d + 2) 0 0 k_S_thatAreThere [.ref v] (mk vi vl) post := by
  refine CallOk.intro (by decide +kernel) rfl (Nat.le_of_ble_eq_true rfl) ?_
  have hrn : rn v ≤ 6 := by unfold rn; by_cases h : v = 1 <;> simp [h]
  have hri : ∀ i, i < rn v → isRw (re v i) := fun i hi => by
    unfold isRw re; unfold rn at hi; rcases hv with rfl | rfl
    · rw [if_pos rfl] at hi; omega
    · rw [if_neg (by decide)] at hi; omega
  refine b_S_thatAreThere_0 ?_
  have key := loop_up (P := fun j => wp X (d + 2) k_S_thatAreThere 0 0 4 [some (.ref v), some (.int (nI (cn (fun i => !decide (vi (re v i) 1 = -1)) j))), some (.int (nI j))] [] (mk vi vl) post) (rn v) 0 (Nat.zero_le _) ?_ ?_
  · exact key
  · have g1 : ¬ ¬ Int32.ofNat (rn v) ≤ nI (rn v) := fun q => q (Int32.le_refl _)
    refine b_S_thatAreThere_4 (by first | assumption | decide | (refine vp_in_nI ?_ ?_ <;> omega) | omega | simp_all) (fun h4 => b_S_thatAreThere_33 ?_) (fun h4 => absurd h4 (by first | decide | assumption | omega | simp_all))
    exact hQ
  · intro j _ hj ih
    have g1 : ¬ Int32.ofNat (rn v) ≤ nI j := nI_ge hj (by omega)
    have cj : (nI j).toNatClampNeg = j := nI_clamp (by omega)
    have vj : vp_in (nI j) (rn v) := vp_in_nI hj (by omega)
    simp only [cn] at ih
    refine b_S_thatAreThere_4 (by first | assumption | decide | (refine vp_in_nI ?_ ?_ <;> omega) | omega | simp_all) (fun h4 => absurd h4 (by first | decide | assumption | omega | simp_all)) (fun h4 => b_S_thatAreThere_10 (by first | assumption | decide | (refine vp_in_nI ?_ ?_ <;> omega) | omega | simp_all) (by first | assumption | decide | (refine vp_in_nI ?_ ?_ <;> omega) | omega | simp_all) ?_)
    rw [cj]
    refine c_R_isMissing (hri j hj) (fun h => ?_) (fun h => ?_)
    · rw [decide_eq_true h] at ih
      refine b_S_thatAreThere_17 (fun h17 => absurd h17 (by first | decide | assumption | omega | simp_all)) (fun h17 => b_S_thatAreThere_20 (b_S_thatAreThere_25 ?_))
      rw [nI_1, show (0 : Int32) = nI 0 from rfl, nI_add]
      exact ih
    · rw [decide_eq_false h] at ih
      refine b_S_thatAreThere_17 (fun h17 => b_S_thatAreThere_24 (b_S_thatAreThere_25 ?_)) (fun h17 => absurd h17 (by first | decide | assumption | omega | simp_all))
      rw [nI_1, nI_1]
      exact ih
theorem c_S_keptCloths (hW : wfA A) (hA : AbC A vi vl) (hQ : post (some (.int (nI (cn (fun k => (aKp A k).isSome) 3)))) (mk vi vl)) : CallOk X (d + 1) 0 0 k_S_keptCloths [.ref 0] (mk vi vl) post := by
  refine CallOk.intro (by decide +kernel) rfl (Nat.le_of_ble_eq_true rfl) ?_
  refine b_S_keptCloths_0 ?_
  have key := loop_up (P := fun j => wp X (d + 1) k_S_keptCloths 0 0 4 [some (.ref 0), some (.int (nI (cn (fun k => (aKp A k).isSome) j))), some (.int (nI j))] [] (mk vi vl) post) 3 0 (Nat.zero_le _) ?_ ?_
  · exact key
  · have g1 : ¬ ¬ (3 : Int32) ≤ nI 3 := by decide
    refine b_S_keptCloths_4 (fun h4 => b_S_keptCloths_35 ?_) (fun h4 => absurd h4 (by first | decide | assumption | omega | simp_all))
    exact hQ
  · intro j _ hj ih
    have g1 : ¬ (3 : Int32) ≤ nI j := nI_ge (a := j) (b := 3) hj (by omega)
    have cj : (nI j).toNatClampNeg = j := nI_clamp (by omega)
    have vj : vp_in (nI j) 3 := vp_in_nI hj (by omega)
    simp only [cn] at ih
    have hk := hA.2.2.1 j hj
    cases he : aKp A j with
    | none =>
      rw [he] at hk ih
      have g2 : ¬ ¬ vi (62 + 11 * (nI j).toNatClampNeg) 0 = 0 := fun q => q (by rw [cj]; exact hk)
      refine b_S_keptCloths_4 (fun h4 => absurd h4 (by first | decide | assumption | omega | simp_all)) (fun h4 => b_S_keptCloths_9 (by first | assumption | decide | (refine vp_in_nI ?_ ?_ <;> omega) | omega | simp_all) (fun h9 => absurd h9 (by first | decide | assumption | omega | simp_all)) (fun h9 => b_S_keptCloths_22 (b_S_keptCloths_27 ?_)))
      rw [nI_1, show (0 : Int32) = nI 0 from rfl, nI_add]
      exact ih
    | some c =>
      rw [he] at hk ih
      obtain ⟨hc, -⟩ := hW.2.2.2.1 j c hj he
      have hn5 := hc.1
      have g2 : ¬ vi (62 + 11 * (nI j).toNatClampNeg) 0 = 0 := by rw [cj, hk.1.1]; exact nI_ne0 hk.2 (by omega)
      refine b_S_keptCloths_4 (fun h4 => absurd h4 (by first | decide | assumption | omega | simp_all)) (fun h4 => b_S_keptCloths_9 (by first | assumption | decide | (refine vp_in_nI ?_ ?_ <;> omega) | omega | simp_all) (fun h9 => b_S_keptCloths_26 (b_S_keptCloths_27 ?_)) (fun h9 => absurd h9 (by first | decide | assumption | omega | simp_all)))
      rw [nI_1, nI_1]
      exact ih
theorem c_S_count {what : Int32} (hW : wfA A) (hA : AbC A vi vl) (hQ : post (some (.int (cntT A what))) (mk vi vl)) : CallOk X (d + 4) 0 0 k_S_count [.ref 0, .int what] (mk vi vl) post := by
  refine CallOk.intro (by decide +kernel) rfl (Nat.le_of_ble_eq_true rfl) ?_
  have h5' := hW.N5
  have h8' := hW.L8
  have hv := hW.2.2.1.v
  unfold cntT at hQ
  refine b_S_count_0 ?_
  refine ⟨fun h => ?_, fun h0 => ⟨fun h => ?_, fun h1 => ⟨fun h => ?_, fun h2 => ⟨fun h => ?_, fun h3 => ⟨fun h => ?_, fun h4 => ⟨fun h => ?_, fun h5 => ⟨fun h => ?_, fun h6 => ⟨fun h => ?_, fun h7 => ⟨fun h => ?_, fun h8 => ?_⟩⟩⟩⟩⟩⟩⟩⟩⟩
  · refine b_S_count_52 ?_
    rw [if_pos h] at hQ
    rw [hA.2.1.1.1]; exact hQ
  · refine b_S_count_60 ?_
    rw [if_neg h0, if_pos h] at hQ
    rw [hA.2.1.1.2.1]; exact hQ
  · refine b_S_count_68 ?_
    rw [if_neg h0, if_neg h1, if_pos h] at hQ
    rw [hA.2.1.1.2.2.1]; exact hQ
  · refine b_S_count_76 ?_
    rw [if_neg h0, if_neg h1, if_neg h2, if_pos h] at hQ
    refine a_yearsThatAre isCl_3 hv hA.2.1.1.v ?_
    have := ysT_32 (c := aCu A) (s := 2) h5'
    refine b_S_count_84 ?_
    refine c_J_bitCount (by omega) ?_
    refine b_S_count_87 ?_
    exact hQ
  · refine b_S_count_88 ?_
    rw [if_neg h0, if_neg h1, if_neg h2, if_neg h3, if_pos h] at hQ
    refine a_yearsWithSomething isCl_3 hv hA.2.1.1.v hA.2.1.2 ?_
    have := ysS_32 (c := aCu A) h5'
    refine b_S_count_95 ?_
    refine c_J_bitCount (by omega) ?_
    refine b_S_count_98 ?_
    exact hQ
  · refine b_S_count_99 ?_
    rw [if_neg h0, if_neg h1, if_neg h2, if_neg h3, if_neg h4, if_pos h] at hQ
    refine c_C_lawsOfKind isCl_3 hA.2.1.1.2.1 h8' (V_kd hv hA.2.1.1.v) ?_
    refine b_S_count_107 ?_
    rw [cn_cg (q := fun k => isK (cK (aCu A)) k 1) (cL (aCu A)) (fun k hk => by unfold isK; rw [(hA.2.1.1.2.2.2.2.1 k hk).1])]
    exact hQ
  · refine b_S_count_108 ?_
    rw [if_neg h0, if_neg h1, if_neg h2, if_neg h3, if_neg h4, if_neg h5, if_pos h] at hQ
    refine c_S_thatAreThere (Or.inl rfl) ?_
    refine b_S_count_115 ?_
    rw [cn_cg (q := fun r => !decide (aRs A r = -1)) (rn 1) (fun r hr => by rw [show re 1 r = 42 + 2 * r by unfold re; omega, (hA.1.1 r hr).1])]
    exact hQ
  · refine b_S_count_116 ?_
    rw [if_neg h0, if_neg h1, if_neg h2, if_neg h3, if_neg h4, if_neg h5, if_neg h6, if_pos h] at hQ
    refine c_S_thatAreThere (Or.inr rfl) ?_
    refine b_S_count_123 ?_
    rw [cn_cg (q := fun t => !decide (aTs A t = -1)) (rn 2) (fun r hr => by rw [show re 2 r = 54 + 2 * r by unfold re; omega, (hA.1.2 r hr).1])]
    exact hQ
  · refine b_S_count_124 ?_
    rw [if_neg h0, if_neg h1, if_neg h2, if_neg h3, if_neg h4, if_neg h5, if_neg h6, if_neg h7, if_pos h] at hQ
    refine c_S_keptCloths hW hA ?_
    refine b_S_count_128 ?_
    exact hQ
  · show wp X (d + 4) k_S_count 0 0 129 _ _ _ _
    refine b_S_count_129 ?_
    rw [if_neg h0, if_neg h1, if_neg h2, if_neg h3, if_neg h4, if_neg h5, if_neg h6, if_neg h7, if_neg h8] at hQ
    exact hQ
theorem s_count {what : Int32} (hW : wfA A) (hA : AbC A vi vl) (hQ : PC vi vl post (cntT A what, A)) : CallOk X (d + 4) 0 0 k_S_count [.ref 0, .int what] (mk vi vl) post := c_S_count hW hA (hQ _ _ hA smM_rf)
end S41
