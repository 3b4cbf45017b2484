/-! the reference: broken; aside: can, safe -/
theorem fy_tb {C E H : Nat → Int32} {n m : Nat} : ∀ (L y : Nat), y < n → (fyA C E H n m L).testBit y = exF (fun k => m.testBit k && (decide (H y = C k) || decide (H y = E k))) 0 L
  | 0, y, _ => by simp [fyA, exF]
  | L + 1, y, hy => by
    have hs : ∀ (p : Nat → Bool) (L i : Nat), exF p i (L + 1) = (exF p i L || p (i + L)) := by
      intro p L
      induction L with
      | zero => intro i; simp [exF]
      | succ L ih => intro i; rw [show exF p i (L + 1 + 1) = (p i || exF p (i + 1) (L + 1)) from rfl, ih (i + 1), show exF p i (L + 1) = (p i || exF p (i + 1) L) from rfl, Bool.or_assoc, show i + 1 + L = i + (L + 1) by omega]
    rw [hs, Nat.zero_add, ← fy_tb L y hy]
    simp only [fyA]
    by_cases h : m.testBit L = true
    · rw [if_pos h, Nat.testBit_or, Nat.testBit_or, bb_tb _ y hy, bb_tb _ y hy, h, Bool.true_and]
    · rw [if_neg h, Bool.eq_false_iff.mpr h, Bool.false_and, Bool.or_false]
theorem fr_tz : ∀ n, n < 6 → ∀ m, m < 2 ^ n → frF m.testBit 0 n = if m = 0 then -9 else nI (tzN m) := by decide +kernel
theorem fy_lt {C E H : Nat → Int32} {n m : Nat} : ∀ L, fyA C E H n m L < 2 ^ n
  | 0 => Nat.pow_pos (by decide)
  | L + 1 => by
    simp only [fyA]
    by_cases h : m.testBit L = true
    · rw [if_pos h]; exact Nat.or_lt_two_pow (fy_lt L) (Nat.or_lt_two_pow (bb_lt _ _) (bb_lt _ _))
    · rw [if_neg h]; exact fy_lt L
/-- the YEARS of broken LAWS -/
def fyP (c : Cl) (y k : Nat) : Bool := (brb c).testBit k && (decide (hap c y = cC c k) || decide (hap c y = cEn c k))
def fyB (c : Cl) (y : Nat) : Bool := exF (fyP c y) 0 (cL c)
theorem exF_s {p : Nat → Bool} {i m : Nat} : exF p i (m + 1) = (p i || exF p (i + 1) m) := rfl
theorem fyC_eq {c : Cl} (hn : cN c ≤ 5) : (if fyC c = 0 then -9 else nI (tzN (fyC c))) = frF (fyB c) 0 (cN c) := by
  rw [← fr_tz (cN c) (by omega) (fyC c) (fy_lt _)]
  exact frF_cg _ _ (fun y _ hy => fy_tb _ y (by omega))
section S62
variable {X : aX} {d : Nat} {vi : Nat → Nat → Int32} {vl : Nat → Nat → Int64} {post : aO} {A : aA} {c : Cl} {f g : Nat → Int32}
theorem m_broken (hW : wfA A) (hA : AbM A vi vl) (hQ : PM vi vl post (oBroken A)) : CallOk X (d + 5) 0 0 k_M_broken [.ref 95] (mk vi vl) post := by
  refine CallOk.intro (by decide +kernel) rfl (Nat.le_of_ble_eq_true rfl) ?_
  unfold oBroken at hQ
  have hn5 := hW.N5
  have hl8 := hW.L8
  have hv := hW.2.2.1.v
  rw [fyC_eq hn5] at hQ
  refine b_M_broken_0 ?_
  refine c_M_brokenNow hW.2.2.1.p hA.V hA.w (fun w ho hP => ?_)
  have hs := sc_45 ho
  have hA2 : AbM A w vl := AbM_sc hW hA hs rfl rfl
  have e0 : w 96 0 = nI (cN (aCu A)) := hP.1.1
  have e1 : w 96 1 = nI (cL (aCu A)) := hP.1.2.1
  have hb := brb_256 hv
  refine b_M_broken_4 ?_
  rw [e0]
  have scan : ∀ k, k ≤ cN (aCu A) → ∀ l4, wp X (d + 5) k_M_broken 0 0 17 [some (.ref 95), some (.int (nI (brb (aCu A)))), some (.int (frF (fyB (aCu A)) k (cN (aCu A) - k))), some (.int (nI k - 1)), l4] [] (mk w vl) post := by
    intro k
    induction k with
    | zero =>
      intro _ l4
      have g1 : ¬ ¬ nI 0 - 1 < 0 := by decide
      rw [Nat.sub_zero]
      refine b_M_broken_17 (fun h17 => b_M_broken_100 ?_) (fun h17 => absurd h17 (by first | decide | assumption | omega | simp_all))
      refine c_M_tells ?_
      refine b_M_broken_106 ?_
      exact hQ _ _ (AbM_ak hW hA2 _) (smC_tr (smC_sc hs) (smC_of fun q hq => up2_n (by omega)))
    | succ y ihy =>
      intro hk l4
      have ihy := ihy (by omega)
      rw [show cN (aCu A) - y = (cN (aCu A) - (y + 1)) + 1 by omega] at ihy
      simp only [frF] at ihy
      generalize frF (fyB (aCu A)) (y + 1) (cN (aCu A) - (y + 1)) = old at ihy ⊢
      rw [nI_pred]
      have em : nI y + -1 = nI y - 1 := by rw [Int32.sub_eq_add_neg]
      have g1 : ¬ nI y < 0 := nI_pos (by omega)
      have cy : (nI y).toNatClampNeg = y := nI_clamp (by omega)
      have vy : vp_in (nI y) 5 := vp_in_nI (by omega) (by omega)
      refine b_M_broken_17 (fun h17 => absurd h17 (by first | decide | assumption | omega | simp_all)) (fun h17 => b_M_broken_21 ?_)
      have key := loop_up (P := fun j => ∀ x, (if fyB (aCu A) y then nI y else old) = (if exF (fyP (aCu A) y) j (cL (aCu A) - j) then nI y else x) → wp X (d + 5) k_M_broken 0 0 24 [some (.ref 95), some (.int (nI (brb (aCu A)))), some (.int x), some (.int (nI y)), some (.int (nI j))] [] (mk w vl) post) (cL (aCu A)) 0 (Nat.zero_le _) ?_ ?_
      · exact key old rfl
      · intro x hx
        rw [Nat.sub_self] at hx
        have hx : (if fyB (aCu A) y then nI y else old) = x := hx
        have g2 : ¬ ¬ w 96 1 ≤ nI (cL (aCu A)) := fun q => q (by rw [e1]; exact Int32.le_refl _)
        refine b_M_broken_24 (fun h24 => b_M_broken_94 ?_) (fun h24 => absurd h24 (by first | decide | assumption | omega | simp_all))
        rw [em, ← hx]
        exact ihy _
      · intro j _ hj ih x hx
        have g2 : ¬ w 96 1 ≤ nI j := by rw [e1]; exact nI_ge hj (by omega)
        rw [show cL (aCu A) - j = (cL (aCu A) - (j + 1)) + 1 by omega] at hx
        rw [exF_s] at hx
        obtain ⟨eK, eC, eE⟩ := hP.1.l hj
        have i20 : (20 + nI j).toNatClampNeg = 20 + j := by rw [ix20]; exact nI_clamp (by omega)
        have i28 : (28 + nI j).toNatClampNeg = 28 + j := by rw [ix28]; exact nI_clamp (by omega)
        have v20 : vp_in (20 + nI j) 5976 := by rw [ix20]; exact vp_in_nI (by omega) (by omega)
        have v28 : vp_in (28 + nI j) 5976 := by rw [ix28]; exact vp_in_nI (by omega) (by omega)
        have eH := (hP.2 y (by omega)).1
        have yes : ∀ b : Bool, (if (true || b) = true then nI y else x) = (if b = true then nI y else nI y) := fun b => by cases b <;> rfl
        refine b_M_broken_24 (fun h24 => absurd h24 (by first | decide | assumption | omega | simp_all)) (fun h24 => b_M_broken_35 ?_)
        refine c_M_has hb (by omega) ?_
        cases ht : (brb (aCu A)).testBit j
        · rw [show fyP (aCu A) y j = false by unfold fyP; rw [ht, Bool.false_and], Bool.false_or] at hx
          refine b_M_broken_41 (fun h41 => b_M_broken_86 (b_M_broken_87 ?_)) (fun h41 => absurd h41 (by first | decide | assumption | omega | simp_all))
          rw [nI_1]
          exact ih x hx
        · by_cases h1 : hap (aCu A) y = cC (aCu A) j
          · have g3 : ¬ ¬ w 104 (nI y).toNatClampNeg = w 96 (20 + nI j).toNatClampNeg := fun q => q (by rw [cy, eH, i20, eC]; exact h1)
            rw [show fyP (aCu A) y j = true by unfold fyP; rw [ht, decide_eq_true h1]; rfl, yes] at hx
            refine b_M_broken_41 (fun h41 => absurd h41 (by first | decide | assumption | omega | simp_all)) (fun h41 => b_M_broken_44 (by first | assumption | decide | (refine vp_in_nI ?_ ?_ <;> omega) | omega | simp_all) (by first | assumption | decide | (refine vp_in_nI ?_ ?_ <;> omega) | omega | simp_all) (fun h44 => b_M_broken_82 (b_M_broken_87 ?_)) (fun h44 => absurd h44 (by first | decide | assumption | omega | simp_all)))
            rw [nI_1]
            exact ih _ hx
          · have g3 : ¬ w 104 (nI y).toNatClampNeg = w 96 (20 + nI j).toNatClampNeg := by rw [cy, eH, i20, eC]; exact h1
            by_cases h2 : hap (aCu A) y = cEn (aCu A) j
            · have g4 : ¬ ¬ w 104 (nI y).toNatClampNeg = w 96 (28 + nI j).toNatClampNeg := fun q => q (by rw [cy, eH, i28, eE]; exact h2)
              rw [show fyP (aCu A) y j = true by unfold fyP; rw [ht, decide_eq_true h2, Bool.or_true]; rfl, yes] at hx
              refine b_M_broken_41 (fun h41 => absurd h41 (by first | decide | assumption | omega | simp_all)) (fun h41 => b_M_broken_44 (by first | assumption | decide | (refine vp_in_nI ?_ ?_ <;> omega) | omega | simp_all) (by first | assumption | decide | (refine vp_in_nI ?_ ?_ <;> omega) | omega | simp_all) (fun h44 => absurd h44 (by first | decide | assumption | omega | simp_all)) (fun h44 => b_M_broken_63 (by first | assumption | decide | (refine vp_in_nI ?_ ?_ <;> omega) | omega | simp_all) (by first | assumption | decide | (refine vp_in_nI ?_ ?_ <;> omega) | omega | simp_all) (fun h63 => absurd h63 (by first | decide | assumption | omega | simp_all)) (fun h63 => b_M_broken_82 (b_M_broken_87 ?_))))
              rw [nI_1]
              exact ih _ hx
            · have g4 : ¬ w 104 (nI y).toNatClampNeg = w 96 (28 + nI j).toNatClampNeg := by rw [cy, eH, i28, eE]; exact h2
              rw [show fyP (aCu A) y j = false by unfold fyP; rw [ht, decide_eq_false h1, decide_eq_false h2]; rfl, Bool.false_or] at hx
              refine b_M_broken_41 (fun h41 => absurd h41 (by first | decide | assumption | omega | simp_all)) (fun h41 => b_M_broken_44 (by first | assumption | decide | (refine vp_in_nI ?_ ?_ <;> omega) | omega | simp_all) (by first | assumption | decide | (refine vp_in_nI ?_ ?_ <;> omega) | omega | simp_all) (fun h44 => absurd h44 (by first | decide | assumption | omega | simp_all)) (fun h44 => b_M_broken_63 (by first | assumption | decide | (refine vp_in_nI ?_ ?_ <;> omega) | omega | simp_all) (by first | assumption | decide | (refine vp_in_nI ?_ ?_ <;> omega) | omega | simp_all) (fun h63 => b_M_broken_86 (b_M_broken_87 ?_)) (fun h63 => absurd h63 (by first | decide | assumption | omega | simp_all))))
              rw [nI_1]
              exact ih _ hx
  have := scan (cN (aCu A)) (Nat.le_refl _)
  rw [Nat.sub_self] at this
  exact this _
/-- the CLOTH is laid aside -/
def asd (vi w : Nat → Nat → Int32) : Prop := (∀ j, j ≠ 95 → j ≠ 96 → j ≠ 104 → j ≠ 105 → j ≠ 106 → w j = vi j) ∧ (∀ k, k ≠ 18 → w 95 k = vi 95 k) ∧ (∀ k, k < 36 → w 96 (5940 + k) = vi 96 k) ∧ ∀ k, 36 ≤ k → k < 5904 → w 96 k = vi 96 k
theorem asd_sc {w : Nat → Nat → Int32} (h : asd vi w) (h0 : ∀ k, k < 36 → w 96 k = vi 96 k) : scM vi w := ⟨fun j hj => h.1 j (by omega) (by omega) (by omega) (by omega) (by omega), fun k _ b => h.2.1 k b, fun k hk => by
  by_cases h36 : k < 36
  · exact h0 k h36
  · exact h.2.2.2 k (by omega) hk⟩
theorem asd_45 {w u : Nat → Nat → Int32} (h : asd vi w) (ho : ∀ j, j ≠ 104 → j ≠ 105 → u j = w j) : asd vi u := by
  have e5 := ho 95 (by decide) (by decide)
  have e6 := ho 96 (by decide) (by decide)
  exact ⟨fun j a b c d e => by rw [ho j c d]; exact h.1 j a b c d e, fun k hk => by rw [e5]; exact h.2.1 k hk, fun k hk => by rw [e6]; exact h.2.2.1 k hk, fun k a b => by rw [e6]; exact h.2.2.2 k a b⟩
theorem asd_up {w : Nat → Nat → Int32} {x : Nat} {v : Int32} (h : asd vi w) (hx : x < 36) : asd vi (up2 w 96 x v) :=
  ⟨fun j a b c d e => by rw [up2_n b]; exact h.1 j a b c d e, fun k hk => by rw [up2_n (by decide)]; exact h.2.1 k hk, fun k hk => by rw [up2_s, vau_n (by omega)]; exact h.2.2.1 k hk, fun k a b => by rw [up2_s, vau_n (by omega)]; exact h.2.2.2 k a b⟩
theorem c_M_lays (hQ : ∀ u, asd vi u → (∀ k, k < 36 → u 96 k = vi 96 k) → post none (mk u vl)) : CallOk X (d + 2) 0 0 k_M_lays [.ref 95] (mk vi vl) post := by
  refine CallOk.intro (by decide +kernel) rfl (Nat.le_of_ble_eq_true rfl) ?_
  refine b_M_lays_0 ?_
  refine c_M_copyAll (a := 0) (b := 5940) (n := 36) (by omega) (by omega) (Or.inl (by omega)) ?_
  refine b_M_lays_10 ?_
  refine hQ _ ⟨fun j a b c d e => up1_n b, fun k hk => by rw [up1_n (by decide)], fun k hk => ?_, fun k a b => ?_⟩ (fun k hk => ?_)
  · rw [up1_s]; unfold va_cpy; rw [if_pos (by omega)]; exact congrArg (vi 96) (by omega)
  · rw [up1_s]; unfold va_cpy; rw [if_neg (by omega)]
  · rw [up1_s]; unfold va_cpy; rw [if_neg (by omega)]
theorem c_M_putsBack {w : Nat → Nat → Int32} (ha : asd vi w) (hQ : ∀ u, asd vi u → (∀ k, k < 36 → u 96 k = vi 96 k) → (∀ j, j ≠ 96 → u j = w j) → post none (mk u vl)) : CallOk X (d + 2) 0 0 k_M_putsBack [.ref 95] (mk w vl) post := by
  refine CallOk.intro (by decide +kernel) rfl (Nat.le_of_ble_eq_true rfl) ?_
  refine b_M_putsBack_0 ?_
  refine c_M_copyAll (a := 5940) (b := 0) (n := 36) (by omega) (by omega) (Or.inr (by omega)) ?_
  refine b_M_putsBack_10 ?_
  refine hQ _ ⟨fun j a b c d e => by rw [up1_n b]; exact ha.1 j a b c d e, fun k hk => by rw [up1_n (by decide)]; exact ha.2.1 k hk, fun k hk => ?_, fun k a b => ?_⟩ (fun k hk => ?_) (fun j hj => up1_n hj)
  · rw [up1_s]; unfold va_cpy; rw [if_neg (by omega)]; exact ha.2.2.1 k hk
  · rw [up1_s]; unfold va_cpy; rw [if_neg (by omega)]; exact ha.2.2.2 k a b
  · rw [up1_s]; unfold va_cpy; rw [if_pos (by omega), ← ha.2.2.1 k hk]; exact congrArg (w 96) (by omega)
theorem MV_sty {y : Nat} {w s : Int32} (hw : wfV c) (h : MV c 0 g) (hy : y < cN c) : MV (sty c y w s) 0 (va_up (va_up g (2 + y) w) (7 + y) s) := by
  have hn := hw.1
  have hl := hw.2.1
  obtain ⟨a1, a2, a3, a4⟩ := h
  refine ⟨by rw [vau_n (by omega), vau_n (by omega)]; exact a1, by rw [vau_n (by omega), vau_n (by omega)]; exact a2, fun z hz => ?_, fun k hk => ?_⟩
  · have hz : z < cN c := hz
    have b := a3 z hz
    rw [Nat.zero_add, Nat.zero_add] at b
    rw [Nat.zero_add, Nat.zero_add]
    show _ = va_up (cW c) y w z ∧ _ = va_up (cS c) y s z
    by_cases hzy : z = y
    · subst hzy; rw [vau_s, vau_s, vau_s, vau_n (by omega), vau_s]; exact ⟨rfl, rfl⟩
    · rw [vau_n hzy, vau_n hzy, vau_n (show 2 + z ≠ 7 + y by omega), vau_n (show 2 + z ≠ 2 + y by omega), vau_n (show 7 + z ≠ 7 + y by omega), vau_n (show 7 + z ≠ 2 + y by omega)]; exact b
  · have hk : k < cL c := hk
    rw [vau_n (by omega), vau_n (by omega), vau_n (by omega), vau_n (by omega), vau_n (by omega), vau_n (by omega)]; exact a4 k hk
theorem sty_p {y : Nat} {w s : Int32} (h : wfP c) (hw : w = 0 ∨ w = 1 ∨ w = 2) : wfP (sty c y w s) := by
  refine ⟨h.1, fun z hz => ?_⟩
  show va_up (cW c) y w z = 0 ∨ va_up (cW c) y w z = 1 ∨ va_up (cW c) y w z = 2
  by_cases hzy : z = y
  · subst hzy; rw [vau_s]; exact hw
  · rw [vau_n hzy]; exact h.2 z hz
theorem m_can {y : Int32} (hW : wfA A) (hA : AbM A vi vl) (hQ : PM vi vl post (oCan A y)) : CallOk X (d + 5) 0 0 k_M_can [.ref 95, .int y] (mk vi vl) post := by
  refine CallOk.intro (by decide +kernel) rfl (Nat.le_of_ble_eq_true rfl) ?_
  unfold oCan at hQ
  have h5' := hW.N5
  have hp := hW.2.2.1.p
  refine b_M_can_0 ?_
  refine c_M_isYear hA.V h5' ?_
  by_cases hy : vp_in y (cN (aCu A))
  · rw [inB_t hy] at hQ ⊢
    rw [if_pos rfl] at hQ
    obtain ⟨j, hj, rfl⟩ := vp_in_of hy (by omega)
    have cj : (nI j).toNatClampNeg = j := nI_clamp (by omega)
    rw [cj] at hQ
    have i2 : (2 + nI j).toNatClampNeg = 2 + j := by rw [ix2]; exact nI_clamp (by omega)
    have v2 : vp_in (2 + nI j) 5976 := by rw [ix2]; exact vp_in_nI (by omega) (by omega)
    have e2 : vi 96 (2 + nI j).toNatClampNeg = cW (aCu A) j := by rw [i2]; exact (hA.V.y hj).1
    by_cases hw1 : cW (aCu A) j = 1
    · have g : ¬ ¬ vi 96 (2 + nI j).toNatClampNeg = 1 := fun q => q (by rw [e2]; exact hw1)
      rw [if_pos hw1] at hQ
      refine b_M_can_5 (fun h5 => b_M_can_10 (by first | assumption | decide | (refine vp_in_nI ?_ ?_ <;> omega) | omega | simp_all) (fun h10 => absurd h10 (by first | decide | assumption | omega | simp_all)) (fun h10 => b_M_can_22 ?_)) (fun h5 => absurd h5 (by first | decide | assumption | omega | simp_all))
      exact hQ _ _ hA smC_rf
    · have g : ¬ vi 96 (2 + nI j).toNatClampNeg = 1 := by rw [e2]; exact hw1
      rw [if_neg hw1] at hQ
      refine b_M_can_5 (fun h5 => b_M_can_10 (by first | assumption | decide | (refine vp_in_nI ?_ ?_ <;> omega) | omega | simp_all) (fun h10 => b_M_can_25 ?_) (fun h10 => absurd h10 (by first | decide | assumption | omega | simp_all))) (fun h5 => absurd h5 (by first | decide | assumption | omega | simp_all))
      refine c_M_lays (fun u0 ha0 h00 => ?_)
      refine b_M_can_31 ?_
      have key := loop_up (P := fun s => ∀ w, asd vi w → (∀ k, k < 36 → w 96 k = vi 96 k) → wp X (d + 5) k_M_can 0 0 33 [some (.ref 95), some (.int (nI j)), some (.int (nI (bb (fun s => decide (brb (sty (aCu A) j 1 (nI s)) = 0)) s))), some (.int (nI s))] [] (mk w vl) post) 5 0 (by decide) ?_ ?_
      · exact key u0 ha0 h00
      · intro w ha h0
        have g1 : ¬ ¬ (5 : Int32) ≤ nI 5 := by decide
        refine b_M_can_33 (fun h33 => b_M_can_71 ?_) (fun h33 => absurd h33 (by first | decide | assumption | omega | simp_all))
        exact hQ _ _ (AbM_sc hW hA (asd_sc ha h0) rfl rfl) (smC_sc (asd_sc ha h0))
      · intro s _ hs ih w ha h0
        have g1 : ¬ (5 : Int32) ≤ nI s := nI_ge (a := s) (b := 5) hs (by omega)
        have hV : MV (aCu A) 0 (w 96) := MV_fr hp.1 hA.V (fun k _ hk => h0 k (by omega))
        refine b_M_can_33 (fun h33 => absurd h33 (by first | decide | assumption | omega | simp_all)) (fun h33 => b_M_can_38 ?_)
        refine c_M_sews (by omega) ?_
        have hV2 : MV (sty (aCu A) j 1 (nI s)) 0 (up2 (up2 w 96 (2 + j) 1) 96 (7 + j) (nI s) 96) := by rw [up2_s, up2_s]; exact MV_sty hp.1 hV hj
        have ha2 : asd vi (up2 (up2 w 96 (2 + j) 1) 96 (7 + j) (nI s)) := asd_up (asd_up ha (by omega)) (by omega)
        refine b_M_can_44 ?_
        refine c_M_brokenNow (c := sty (aCu A) j 1 (nI s)) (sty_p hp (Or.inr (Or.inl rfl))) hV2 (by rw [ha2.2.1 16 (by decide)]; exact hA.w) (fun w3 ho _ => ?_)
        have ha3 := asd_45 ha2 ho
        have hb := brb_256 (sty_v (y := j) (w := 1) (s := nI s) hp.1)
        have hbs := bb_st (p := fun s => decide (brb (sty (aCu A) j 1 (nI s)) = 0)) (i := s) (by omega)
        by_cases hz : brb (sty (aCu A) j 1 (nI s)) = 0
        · rw [if_pos (decide_eq_true hz)] at hbs
          rw [hz]
          refine b_M_can_49 (fun h49 => absurd h49 (by first | decide | assumption | omega | simp_all)) (fun h49 => b_M_can_52 (b_M_can_59 ?_))
          rw [hbs]
          refine c_M_putsBack ha3 (fun u hu hu0 _ => ?_)
          refine b_M_can_65 ?_
          rw [nI_1]
          exact ih u hu hu0
        · rw [if_neg (fun q => hz (of_decide_eq_true q))] at hbs
          have g2 : ¬ nI (brb (sty (aCu A) j 1 (nI s))) = 0 := nI_ne0 (by omega) (by omega)
          refine b_M_can_49 (fun h49 => b_M_can_58 (b_M_can_59 ?_)) (fun h49 => absurd h49 (by first | decide | assumption | omega | simp_all))
          rw [hbs]
          refine c_M_putsBack ha3 (fun u hu hu0 _ => ?_)
          refine b_M_can_65 ?_
          rw [nI_1]
          exact ih u hu hu0
  · rw [inB_f hy] at hQ ⊢
    rw [if_neg (fun q => by cases q)] at hQ
    refine b_M_can_5 (fun h5 => absurd h5 (by first | decide | assumption | omega | simp_all)) (fun h5 => b_M_can_8 ?_)
    exact hQ _ _ hA smC_rf
end S62
