section S40
variable {X : aX} {d : Nat} {vi : Nat → Nat → Int32} {vl : Nat → Nat → Int64} {post : aO} {A : aA}
theorem a_stitch {c : Cl} {y ch : Nat} (hw : wfC c) (hC : ClC c 3 vi) (hs : setl vi 3 (cL c) (cN c)) (ht : cT c < 40) (hy : y < cN c) (hc : ch ≤ 6) (hQ : ∀ w, (∀ q, (q < 3 ∨ 13 < q) → w q = vi q) → ClC (stc c y ch) 3 w → setl w 3 (cL c) (cN c) → post none (mk w vl)) : CallOk X (d + 5) 0 0 k_C_stitch [.ref 3, .int (nI y), .int (nI ch)] (mk vi vl) post := by
  refine c_C_stitch isCl_3 hC.1 hw.1 hC.2.1 hw.2.1 hC.2.2.1 ht hy hs (fun w h1 h2 => hQ w (fun q hq => ?_) (ClC_stc hC hy hc h1) h2)
  rw [h1 q (by omega) (by omega)]; unfold stiM
  rw [chgM_o (by omega) (by omega), up2_n (by omega), up2_n (by omega), up2_n (by omega), up2_n (by omega)]
theorem lg_c1 {x : Nat} (hx : x < 2 ^ 31) : lg_cmp (lN x) 2147483647 < 0 ↔ x < 2147483647 := by
  unfold lg_cmp
  have e : (2147483647 : Int64) = lN 2147483647 := rfl
  rw [e]
  by_cases h : x < 2147483647
  · have h1 : ¬ lN x > lN 2147483647 := fun q => by have := (lN_lt (by omega) (by omega)).mp q; omega
    have h2 : ¬ lN x = lN 2147483647 := fun q => by have := (lN_eq (by omega) (by omega)).mp q; omega
    rw [if_neg h1, if_neg h2]; exact ⟨fun _ => h, fun _ => by decide⟩
  · have hx2 : x = 2147483647 := by omega
    subst hx2
    rw [if_neg (fun q => by have := (lN_lt (by omega) (by omega)).mp q; omega), if_pos rfl]
    exact ⟨fun q => absurd q (by decide), fun q => absurd q h⟩
theorem lotR_n {c : Cl} : ∀ (n : Nat) (c : Cl) (x : Nat), cN (lotR n c x) = cN c ∧ cL (lotR n c x) = cL c
  | 0, c, _ => ⟨rfl, rfl⟩
  | n + 1, c, x => lotR_n (c := c) n (lotS c (lotX x)) (lotX x)
theorem s_lots {n s : Int32} (hW : wfA A) (hA : AbC A vi vl) (hQ : PC vi vl post (oLots A n s)) : CallOk X (d + 6) 0 0 k_S_lots [.ref 0, .int n, .int s] (mk vi vl) post := by
  refine CallOk.intro (by decide +kernel) rfl (Nat.le_of_ble_eq_true rfl) ?_
  unfold oLots at hQ
  have h5' := hW.N5
  have hn : vi 3 0 = nI (cN (aCu A)) := hA.2.1.1.1
  have ht7 : vi 3 7 = nI (cT (aCu A)) := hA.2.1.1.2.2.1
  have h40 : cT (aCu A) ≤ 40 := hW.2.2.1.2.2.1
  by_cases hb : (1 ≤ n.toInt ∧ n.toInt ≤ 10) ∧ (1 ≤ s.toInt ∧ s.toInt ≤ 2147483646)
  · rw [if_pos hb] at hQ
    obtain ⟨⟨n1, n2⟩, s1, s2⟩ := hb
    obtain ⟨m, hm, rfl⟩ := nI_of (x := n) (fun q => by rw [Int32.lt_iff_toInt_lt] at q; have : (0 : Int32).toInt = 0 := rfl; omega)
    obtain ⟨x0, hx0, rfl⟩ := nI_of (x := s) (fun q => by rw [Int32.lt_iff_toInt_lt] at q; have : (0 : Int32).toInt = 0 := rfl; omega)
    rw [nI_toInt hm] at n1 n2
    rw [nI_toInt hx0] at s1 s2
    have cm : (nI m).toNatClampNeg = m := nI_clamp hm
    have cx : (nI x0).toNatClampNeg = x0 := nI_clamp hx0
    rw [cm, cx] at hQ
    have g1 : ¬ nI m < 1 := nI_nlt (a := m) (b := 1) (by omega) (by omega)
    have g2 : ¬ 10 < nI m := nI_nlt (a := 10) (b := m) (by omega) (by omega)
    have g3 : ¬ nI x0 < 1 := nI_nlt (a := x0) (b := 1) (by omega) (by omega)
    have g4 : lg_cmp (nI x0).toInt64 2147483647 < 0 := by rw [nI_l hx0]; exact (lg_c1 hx0).mpr (by omega)
    have q0 : (nI (cN (aCu A)) = 0) ↔ cN (aCu A) = 0 := nI_eq (b := 0) (by omega) (by omega)
    by_cases h0 : cN (aCu A) = 0
    · have g : vi 3 0 = 0 := by rw [hn]; exact q0.mpr h0
      rw [if_pos h0] at hQ
      refine b_S_lots_0 (fun h0 => absurd h0 (by first | decide | assumption | omega | simp_all)) (fun h0 => b_S_lots_5 (fun h5 => absurd h5 (by first | decide | assumption | omega | simp_all)) (fun h5 => b_S_lots_11 (fun h11 => absurd h11 (by first | decide | assumption | omega | simp_all)) (fun h11 => b_S_lots_16 (fun h16 => b_S_lots_27 (fun h27 => absurd h27 (by first | decide | assumption | omega | simp_all)) (fun h27 => b_S_lots_37 ?_)) (fun h16 => absurd h16 (by first | decide | assumption | omega | simp_all)))))
      exact hQ _ _ hA smM_rf
    · have g : ¬ vi 3 0 = 0 := by rw [hn]; exact fun q => h0 (q0.mp q)
      rw [if_neg h0] at hQ
      by_cases hf : 40 < cT (aCu A) + m
      · have g5 : ¬ vi 3 7 + nI m ≤ 40 := by rw [ht7, nI_add]; exact nI_ge (a := 40) hf (by omega)
        rw [if_pos hf] at hQ
        refine b_S_lots_0 (fun h0 => absurd h0 (by first | decide | assumption | omega | simp_all)) (fun h0 => b_S_lots_5 (fun h5 => absurd h5 (by first | decide | assumption | omega | simp_all)) (fun h5 => b_S_lots_11 (fun h11 => absurd h11 (by first | decide | assumption | omega | simp_all)) (fun h11 => b_S_lots_16 (fun h16 => b_S_lots_27 (fun h27 => b_S_lots_40 (fun h40 => absurd h40 (by first | decide | assumption | omega | simp_all)) (fun h40 => b_S_lots_54 ?_)) (fun h27 => absurd h27 (by first | decide | assumption | omega | simp_all))) (fun h16 => absurd h16 (by first | decide | assumption | omega | simp_all)))))
        exact hQ _ _ hA smM_rf
      · have g5 : vi 3 7 + nI m ≤ 40 := by rw [ht7, nI_add]; exact nI_le (b := 40) (by omega) (by omega)
        rw [if_neg hf] at hQ
        refine b_S_lots_0 (fun h0 => absurd h0 (by first | decide | assumption | omega | simp_all)) (fun h0 => b_S_lots_5 (fun h5 => absurd h5 (by first | decide | assumption | omega | simp_all)) (fun h5 => b_S_lots_11 (fun h11 => absurd h11 (by first | decide | assumption | omega | simp_all)) (fun h11 => b_S_lots_16 (fun h16 => b_S_lots_27 (fun h27 => b_S_lots_40 (fun h40 => b_S_lots_57 ?_) (fun h40 => absurd h40 (by first | decide | assumption | omega | simp_all))) (fun h27 => absurd h27 (by first | decide | assumption | omega | simp_all))) (fun h16 => absurd h16 (by first | decide | assumption | omega | simp_all)))))
        rw [nI_l hx0]
        have key := loop_up (P := fun i => ∀ w c x l6, x < 2147483647 → wfC c → ClC c 3 w → setl w 3 (cL c) (cN c) → cN c = cN (aCu A) → cT c + (m - i) ≤ 40 → lotR m (aCu A) x0 = lotR (m - i) c x → (∀ q, (q < 3 ∨ 13 < q) → w q = vi q) → wp X (d + 6) k_S_lots 0 0 63 [some (.ref 0), some (.int (nI m)), some (.int (nI x0)), some (.long (lN x)), none, some (.int (nI i)), l6] [] (mk w vl) post) m 0 (Nat.zero_le _) ?_ ?_
        · exact key vi (aCu A) x0 _ (by omega) hW.2.2.1 hA.2.1.1 hA.2.1.2 rfl (by omega) rfl (fun _ _ => rfl)
        · intro w c x l6 hx hw hC hs hcN hT he ho
          rw [Nat.sub_self] at he
          have he : lotR m (aCu A) x0 = c := he
          have g6 : ¬ ¬ nI m ≤ nI m := fun q => q (Int32.le_refl _)
          refine b_S_lots_63 (fun h63 => b_S_lots_135 ?_) (fun h63 => absurd h63 (by first | decide | assumption | omega | simp_all))
          refine a_brokenLaws (c := c) isCl_3 hw.v hC.v hs ?_
          have := brb_256 hw.v
          refine b_S_lots_142 ?_
          refine c_J_bitCount (by omega) ?_
          refine b_S_lots_145 ?_
          rw [he] at hQ
          exact hQ _ _ (AbC_cu hA hC hs (fun q hq => ho q (by omega))) (smM_of fun q hq => ho q (by omega))
        · intro i _ hi ih w c x l6 hx hw hC hs hcN hT he ho
          have hn5 := hw.1
          have g6 : ¬ nI m ≤ nI i := nI_ge hi (by omega)
          rw [show m - i = (m - (i + 1)) + 1 by omega] at he
          have he : lotR m (aCu A) x0 = lotR (m - (i + 1)) (lotS c (lotX x)) (lotX x) := he
          have hX : lotX x < 2147483647 := Nat.mod_lt _ (by decide)
          have eX : lN x * 48271 - lN x * 48271 / 2147483647 * 2147483647 = lN (lotX x) := by
            rw [show (48271 : Int64) = lN 48271 from rfl, show (2147483647 : Int64) = lN 2147483647 from rfl, lN_mul, lN_mod (by omega) (by omega)]; rfl
          have e0 : (w 3 0).toInt64 = lN (cN c) := by rw [hC.1, nI_l (by omega)]
          have g7 : ¬ (w 3 0).toInt64 = 0 := by rw [e0]; exact fun q => by have := (lN_eq0 (by omega)).mp q; omega
          have hy : lotX x % cN c < cN c := Nat.mod_lt _ (by omega)
          have eY : ((lN x * 48271 - lN x * 48271 / 2147483647 * 2147483647) - (lN x * 48271 - lN x * 48271 / 2147483647 * 2147483647) / ((w 3 0).toInt64) * ((w 3 0).toInt64)).toInt32 = nI (lotX x % cN c) := by
            rw [eX, e0, lN_mod (by omega) (by omega), lN_i]
          have g8 : vp_in (((lN x * 48271 - lN x * 48271 / 2147483647 * 2147483647) - (lN x * 48271 - lN x * 48271 / 2147483647 * 2147483647) / ((w 3 0).toInt64) * ((w 3 0).toInt64)).toInt32) 5 := by rw [eY]; exact vp_in_nI (by omega) (by omega)
          have ew : w 4 (lotX x % cN c) = cW c (lotX x % cN c) := (hC.2.2.2.1 _ hy).1
          have fin : ∀ ch, ch ≤ 5 → ((cW c (lotX x % cN c) = 1 ∧ ch = 5) ∨ (¬ cW c (lotX x % cN c) = 1 ∧ ch < 5)) → lotS c (lotX x) = stc c (lotX x % cN c) ch → ∀ w2, (∀ q, (q < 3 ∨ 13 < q) → w2 q = w q) → ClC (stc c (lotX x % cN c) ch) 3 w2 → setl w2 3 (cL c) (cN c) → ∀ l6, wp X (d + 6) k_S_lots 0 0 63 [some (.ref 0), some (.int (nI m)), some (.int (nI x0)), some (.long (lN (lotX x))), none, some (.int (nI (i + 1))), l6] [] (mk w2 vl) post := by
            intro ch hch hcase hS w2 ho2 hC2 hs2 l6
            exact ih w2 (stc c (lotX x % cN c) ch) (lotX x) l6 hX (stc_wf hw (by omega) hcase hy) hC2 hs2 hcN (show cT c + 1 + (m - (i + 1)) ≤ 40 by omega) (by rw [he, hS]) (fun q hq => by rw [ho2 q hq, ho q hq])
          by_cases h1 : cW c (lotX x % cN c) = 1
          · have g9 : w 4 (((lN x * 48271 - lN x * 48271 / 2147483647 * 2147483647) - (lN x * 48271 - lN x * 48271 / 2147483647 * 2147483647) / ((w 3 0).toInt64) * ((w 3 0).toInt64)).toInt32).toNatClampNeg = 1 := by rw [eY, nI_clamp (by omega), ew]; exact h1
            refine b_S_lots_63 (fun h63 => absurd h63 (by first | decide | assumption | omega | simp_all)) (fun h63 => b_S_lots_69 (by first | assumption | decide | (refine vp_in_nI ?_ ?_ <;> omega) | omega | simp_all) (by first | assumption | decide | (refine vp_in_nI ?_ ?_ <;> omega) | omega | simp_all) (fun h69 => absurd h69 (by first | decide | assumption | omega | simp_all)) (fun h69 => b_S_lots_112 (b_S_lots_126 ?_)))
            rw [eY, eX]
            refine a_stitch (c := c) (ch := 5) hw hC hs (by omega) hy (by omega) (fun w2 ho2 hC2 hs2 => ?_)
            refine b_S_lots_129 ?_
            rw [nI_1]
            exact fin 5 (by omega) (Or.inl ⟨h1, rfl⟩) (by unfold lotS; rw [if_pos h1]) w2 ho2 hC2 hs2 _
          · have g9 : ¬ w 4 (((lN x * 48271 - lN x * 48271 / 2147483647 * 2147483647) - (lN x * 48271 - lN x * 48271 / 2147483647 * 2147483647) / ((w 3 0).toInt64) * ((w 3 0).toInt64)).toInt32).toNatClampNeg = 1 := by rw [eY, nI_clamp (by omega), ew]; exact h1
            refine b_S_lots_63 (fun h63 => absurd h63 (by first | decide | assumption | omega | simp_all)) (fun h63 => b_S_lots_69 (by first | assumption | decide | (refine vp_in_nI ?_ ?_ <;> omega) | omega | simp_all) (by first | assumption | decide | (refine vp_in_nI ?_ ?_ <;> omega) | omega | simp_all) (fun h69 => b_S_lots_116 (b_S_lots_126 ?_)) (fun h69 => absurd h69 (by first | decide | assumption | omega | simp_all)))
            have eZ : (lN (lotX x) / 32 - lN (lotX x) / 32 / 5 * 5).toInt32 = nI (lotX x / 32 % 5) := by
              rw [show (32 : Int64) = lN 32 from rfl, show (5 : Int64) = lN 5 from rfl, lN_div (by omega) (by omega), lN_mod (by omega) (by omega), lN_i]
            rw [eY, eX, eZ]
            have h5 : lotX x / 32 % 5 < 5 := Nat.mod_lt _ (by decide)
            refine a_stitch (c := c) (ch := lotX x / 32 % 5) hw hC hs (by omega) hy (by omega) (fun w2 ho2 hC2 hs2 => ?_)
            refine b_S_lots_129 ?_
            rw [nI_1]
            exact fin _ (by omega) (Or.inr ⟨h1, h5⟩) (by unfold lotS; rw [if_neg h1]) w2 ho2 hC2 hs2 _
  · rw [if_neg hb] at hQ
    by_cases g1 : n < 1
    · refine b_S_lots_0 (fun h0 => b_S_lots_25 ?_) (fun h0 => absurd h0 (by first | decide | assumption | omega | simp_all))
      exact hQ _ _ hA smM_rf
    · by_cases g2 : 10 < n
      · refine b_S_lots_0 (fun h0 => absurd h0 (by first | decide | assumption | omega | simp_all)) (fun h0 => b_S_lots_5 (fun h5 => b_S_lots_25 ?_) (fun h5 => absurd h5 (by first | decide | assumption | omega | simp_all)))
        exact hQ _ _ hA smM_rf
      · by_cases g3 : s < 1
        · refine b_S_lots_0 (fun h0 => absurd h0 (by first | decide | assumption | omega | simp_all)) (fun h0 => b_S_lots_5 (fun h5 => absurd h5 (by first | decide | assumption | omega | simp_all)) (fun h5 => b_S_lots_11 (fun h11 => b_S_lots_25 ?_) (fun h11 => absurd h11 (by first | decide | assumption | omega | simp_all))))
          exact hQ _ _ hA smM_rf
        · have g4 : ¬ lg_cmp s.toInt64 2147483647 < 0 := by
            have hs0 : ¬ s < 0 := fun q => g3 (by rw [Int32.lt_iff_toInt_lt] at q ⊢; have : (0 : Int32).toInt = 0 := rfl; have : (1 : Int32).toInt = 1 := rfl; omega)
            obtain ⟨x0, hx0, rfl⟩ := nI_of hs0
            rw [nI_l hx0]
            intro q
            have hx := (lg_c1 hx0).mp q
            apply hb
            rw [Int32.lt_iff_toInt_lt] at g1 g2 g3
            have e1 : (1 : Int32).toInt = 1 := rfl
            have e10 : (10 : Int32).toInt = 10 := rfl
            have ex := nI_toInt hx0
            omega
          refine b_S_lots_0 (fun h0 => absurd h0 (by first | decide | assumption | omega | simp_all)) (fun h0 => b_S_lots_5 (fun h5 => absurd h5 (by first | decide | assumption | omega | simp_all)) (fun h5 => b_S_lots_11 (fun h11 => absurd h11 (by first | decide | assumption | omega | simp_all)) (fun h11 => b_S_lots_16 (fun h16 => absurd h16 (by first | decide | assumption | omega | simp_all)) (fun h16 => b_S_lots_25 ?_))))
          exact hQ _ _ hA smM_rf
theorem s_asked (hA : AbC A vi vl) (hQ : PC vi vl post (aAk A, A)) : CallOk X (d + 1) 0 0 k_S_asked [.ref 0] (mk vi vl) post := by
  refine CallOk.intro (by decide +kernel) rfl (Nat.le_of_ble_eq_true rfl) ?_
  refine b_S_asked_0 ?_
  rw [hA.2.2.2.2.1]
  exact hQ _ _ hA smM_rf
/-- what a call of the class's comes to that answers a long -/
def PL (vi : Nat → Nat → Int32) (vl : Nat → Nat → Int64) (post : aO) (o : Int64 × aA) : Prop := ∀ w wl, AbC o.2 w wl → smM vi w vl wl → post (some (.long o.1)) (mk w wl)
theorem s_upper (hA : AbC A vi vl) (hQ : PL vi vl post (aUp A, A)) : CallOk X (d + 1) 0 0 k_S_upper [.ref 0] (mk vi vl) post := by
  refine CallOk.intro (by decide +kernel) rfl (Nat.le_of_ble_eq_true rfl) ?_
  refine b_S_upper_0 ?_
  rw [hA.2.2.2.2.2.1]
  exact hQ _ _ hA smM_rf
theorem s_lower (hA : AbC A vi vl) (hQ : PL vi vl post (aLo A, A)) : CallOk X (d + 1) 0 0 k_S_lower [.ref 0] (mk vi vl) post := by
  refine CallOk.intro (by decide +kernel) rfl (Nat.le_of_ble_eq_true rfl) ?_
  refine b_S_lower_0 ?_
  rw [hA.2.2.2.2.2.2]
  exact hQ _ _ hA smM_rf
theorem s_finding (hA : AbC A vi vl) (hQ : PC vi vl post (aFd A, A)) : CallOk X (d + 1) 0 0 k_S_finding [.ref 0] (mk vi vl) post := by
  refine CallOk.intro (by decide +kernel) rfl (Nat.le_of_ble_eq_true rfl) ?_
  refine b_S_finding_0 ?_
  rw [hA.2.2.2.1.1]
  exact hQ _ _ hA smM_rf
def oFindings (A : aA) (f : Int32) : Int32 × aA := if 1 ≤ f.toInt ∧ f.toInt ≤ 5 then (aFs A (f.toNatClampNeg), A) else (-1, A)
theorem s_findings {f : Int32} (hA : AbC A vi vl) (hQ : PC vi vl post (oFindings A f)) : CallOk X (d + 1) 0 0 k_S_findings [.ref 0, .int f] (mk vi vl) post := by
  refine CallOk.intro (by decide +kernel) rfl (Nat.le_of_ble_eq_true rfl) ?_
  unfold oFindings at hQ
  have e1 : (1 : Int32).toInt = 1 := rfl
  have e5 : (5 : Int32).toInt = 5 := rfl
  by_cases hb : 1 ≤ f.toInt ∧ f.toInt ≤ 5
  · rw [if_pos hb] at hQ
    have g1 : ¬ f < 1 := fun q => by rw [Int32.lt_iff_toInt_lt] at q; omega
    have g2 : f ≤ 5 := by rw [Int32.le_iff_toInt_le]; omega
    have g3 : vp_in f 6 := by rw [vp_in_iff]; omega
    refine b_S_findings_0 (fun h0 => absurd h0 (by first | decide | assumption | omega | simp_all)) (fun h0 => b_S_findings_5 (fun h5 => b_S_findings_12 (by first | assumption | decide | (refine vp_in_nI ?_ ?_ <;> omega) | omega | simp_all) ?_) (fun h5 => absurd h5 (by first | decide | assumption | omega | simp_all)))
    rw [hA.2.2.2.1.2 _ (vin_lt g3)]
    exact hQ _ _ hA smM_rf
  · rw [if_neg hb] at hQ
    by_cases g1 : f < 1
    · refine b_S_findings_0 (fun h0 => b_S_findings_10 ?_) (fun h0 => absurd h0 (by first | decide | assumption | omega | simp_all))
      exact hQ _ _ hA smM_rf
    · have g2 : ¬ f ≤ 5 := fun q => hb (by rw [Int32.lt_iff_toInt_lt] at g1; rw [Int32.le_iff_toInt_le] at q; omega)
      refine b_S_findings_0 (fun h0 => absurd h0 (by first | decide | assumption | omega | simp_all)) (fun h0 => b_S_findings_5 (fun h5 => absurd h5 (by first | decide | assumption | omega | simp_all)) (fun h5 => b_S_findings_10 ?_))
      exact hQ _ _ hA smM_rf
end S40
