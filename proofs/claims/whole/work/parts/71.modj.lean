/-! the reference: does -/
theorem chWi_n {w : Int32} {k : Nat} (hk : k < 7) : chWi w (nI k) = chW w k := by
  unfold chWi chW
  have e6 := nI_6 (ch := k) (by omega)
  have e5 := nI_5 (ch := k) (by omega)
  by_cases h5 : k = 5
  · rw [if_pos h5, if_pos (e5.mpr h5)]
  · rw [if_neg h5, if_neg (fun q => h5 (e5.mp q))]
    by_cases h6 : k = 6
    · rw [if_pos h6, if_pos (e6.mpr h6)]
    · rw [if_neg h6, if_neg (fun q => h6 (e6.mp q))]
theorem chSi_n {w : Int32} {k : Nat} (hk : k < 7) : chSi w (nI k) = chS w k := by
  unfold chSi chS
  have e6 := nI_6 (ch := k) (by omega)
  have e5 := nI_5 (ch := k) (by omega)
  by_cases h5 : k = 5
  · rw [if_pos h5, if_pos (e5.mpr h5)]
  · rw [if_neg h5, if_neg (fun q => h5 (e5.mp q))]
    by_cases h6 : k = 6
    · rw [if_pos h6, if_pos (e6.mpr h6)]
    · rw [if_neg h6, if_neg (fun q => h6 (e6.mp q))]
/-- the CLOTH changed by a PLAN -/
def plC (c : Cl) (p : Nat → Nat) (m : Nat) : Cl := chP c (fun y => nI (p y)) m
section S71
variable {X : aX} {d : Nat} {vi : Nat → Nat → Int32} {vl : Nat → Nat → Int64} {post : aO} {A : aA} {c : Cl} {f g : Nat → Int32}
theorem asd_106 {w : Nat → Nat → Int32} {x : Nat} {v : Int32} (h : asd vi w) : asd vi (up2 w 106 x v) :=
  ⟨fun j a b c d e => by rw [up2_n e]; exact h.1 j a b c d e, fun k hk => by rw [up2_n (by decide)]; exact h.2.1 k hk, fun k hk => by rw [up2_n (by decide)]; exact h.2.2.1 k hk, fun k a b => by rw [up2_n (by decide)]; exact h.2.2.2 k a b⟩
theorem c_M_does {w : Nat → Nat → Int32} {code : Nat} (hw : wfV c) (hcode : code < 7 ^ cN c) (ha : asd vi w) (hV : MV c 0 (w 96))
    (hF : ∀ u, alF (fun y => alC (cW c y) (dgc (cN c) code y)) 0 (cN c) = false → asd vi u → u 95 = w 95 → MV c 0 (u 96) → (∀ y, y < cN c → u 106 y = nI (dgc (cN c) code y)) → post (some (.int (-1))) (mk u vl))
    (hS : ∀ u, alF (fun y => alC (cW c y) (dgc (cN c) code y)) 0 (cN c) = true → asd vi u → u 95 = w 95 → MV (plC c (dgc (cN c) code) (cN c)) 0 (u 96) → (∀ y, y < cN c → u 106 y = nI (dgc (cN c) code y)) → post (some (.int (nI (ctP (dgc (cN c) code) (cN c))))) (mk u vl)) : CallOk X (d + 2) 0 0 k_M_does [.ref 95, .int (nI code)] (mk w vl) post := by
  refine CallOk.intro (by decide +kernel) rfl (Nat.le_of_ble_eq_true rfl) ?_
  have hn5 := hw.1
  have h7 := pow7_le hn5
  generalize hp : dgc (cN c) code = p at hF hS
  have hp7 : ∀ y, p y < 7 := fun y => by rw [← hp]; exact dgc_7
  have e0 : w 96 0 = nI (cN c) := hV.1
  refine b_M_does_0 ?_
  rw [e0]
  have back : ∀ u (b : Bool) x2 l5, asd vi u → u 95 = w 95 → MV c 0 (u 96) → (∀ y, y < cN c → u 106 y = nI (p y)) → b = alF (fun y => alC (cW c y) (p y)) 0 (cN c) → wp X (d + 2) k_M_does 0 0 92 [some (.ref 95), some (.int (nI code)), some (.int x2), some (.int (nI (ctP p (cN c)))), some (.int (bI b)), some (.int l5)] [] (mk u vl) post := by
    intro u b x2 l5 hau k95 hVu k106 hb
    cases b
    · refine b_M_does_92 ?_
      have e1 : u 96 0 = nI (cN c) := hVu.1
      by_cases hn0 : cN c = 0
      · rw [hn0] at hb; have hb : false = true := hb; cases hb
      · have g : ¬ u 96 0 ≤ 0 := by rw [e1]; exact nI_nle (by omega) (by omega)
        refine b_M_does_95 (fun h95 => absurd h95 (by first | decide | assumption | omega | simp_all)) (fun h95 => b_M_does_106 (fun h106 => b_M_does_165 (fun h165 => b_M_does_174 (b_M_does_175 ?_)) (fun h165 => absurd h165 (by first | decide | assumption | omega | simp_all))) (fun h106 => absurd h106 (by first | decide | assumption | omega | simp_all)))
        exact hF u hb.symm hau k95 hVu k106
    · refine b_M_does_92 ?_
      have key := loop_up (P := fun y => ∀ v, asd vi v → v 95 = w 95 → MV (plC c p y) 0 (v 96) → (∀ y, y < cN c → v 106 y = nI (p y)) → wp X (d + 2) k_M_does 0 0 95 [some (.ref 95), some (.int (nI code)), some (.int x2), some (.int (nI (ctP p (cN c)))), some (.int 1), some (.int (nI y))] [] (mk v vl) post) (cN c) 0 (Nat.zero_le _) ?_ ?_
      · exact key u hau k95 (by unfold plC; rw [chP_0]; exact hVu) k106
      · intro v hav hv5 hVv hv6
        have g : ¬ ¬ v 96 0 ≤ nI (cN c) := fun q => q (by rw [show v 96 0 = nI (cN c) from hVv.1]; exact Int32.le_refl _)
        refine b_M_does_95 (fun h95 => b_M_does_165 (fun h165 => absurd h165 (by first | decide | assumption | omega | simp_all)) (fun h165 => b_M_does_170 (b_M_does_175 ?_))) (fun h95 => absurd h95 (by first | decide | assumption | omega | simp_all))
        exact hS v hb.symm hav hv5 hVv hv6
      · intro y _ hy ih v hav hv5 hVv hv6
        have g : ¬ v 96 0 ≤ nI y := by rw [show v 96 0 = nI (cN c) from hVv.1]; exact nI_ge hy (by omega)
        have cy : (nI y).toNatClampNeg = y := nI_clamp (by omega)
        have vy : vp_in (nI y) 5 := vp_in_nI (by omega) (by omega)
        have i2 : (2 + nI y).toNatClampNeg = 2 + y := by rw [ix2]; exact nI_clamp (by omega)
        have v2 : vp_in (2 + nI y) 5976 := by rw [ix2]; exact vp_in_nI (by omega) (by omega)
        have e6 : v 106 (nI y).toNatClampNeg = nI (p y) := by rw [cy]; exact hv6 y hy
        have hpy := hp7 y
        have ecW : cW (plC c p y) y = cW c y := if_neg (Nat.lt_irrefl _)
        have ecS : cS (plC c p y) y = cS c y := if_neg (Nat.lt_irrefl _)
        obtain ⟨eW, eS⟩ := hVv.y (show y < cN (plC c p y) from hy)
        rw [ecW] at eW
        rw [ecS] at eS
        have nxt : ∀ v2, v2 = up2 (up2 v 96 (2 + y) (chW (cW c y) (p y))) 96 (7 + y) (chS (cS c y) (p y)) → wp X (d + 2) k_M_does 0 0 95 [some (.ref 95), some (.int (nI code)), some (.int x2), some (.int (nI (ctP p (cN c)))), some (.int 1), some (.int (nI (y + 1)))] [] (mk v2 vl) post := by
          intro v2 hv2
          refine ih v2 (by rw [hv2]; exact asd_up (asd_up hav (by omega)) (by omega)) (by rw [hv2, up2_n (by decide), up2_n (by decide)]; exact hv5) ?_ (fun z hz => by rw [hv2, up2_n (by decide), up2_n (by decide)]; exact hv6 z hz)
          have b := MV_sty (c := plC c p y) (y := y) (w := chWi (cW c y) (nI (p y))) (s := chSi (cS c y) (nI (p y))) hw hVv hy
          have es : sty (plC c p y) y (chWi (cW c y) (nI (p y))) (chSi (cS c y) (nI (p y))) = plC c p (y + 1) := chP_s (p := fun y => nI (p y))
          rw [es, chWi_n hpy, chSi_n hpy] at b
          rw [hv2, up2_s, up2_s]; exact b
        by_cases h5 : p y = 5
        · have g5 : ¬ ¬ v 106 (nI y).toNatClampNeg = 5 := fun q => q (by rw [e6, h5]; rfl)
          refine b_M_does_95 (fun h95 => absurd h95 (by first | decide | assumption | omega | simp_all)) (fun h95 => b_M_does_106 (fun h106 => absurd h106 (by first | decide | assumption | omega | simp_all)) (fun h106 => b_M_does_111 (by first | assumption | decide | (refine vp_in_nI ?_ ?_ <;> omega) | omega | simp_all) (fun h111 => absurd h111 (by first | decide | assumption | omega | simp_all)) (fun h111 => b_M_does_122 (by first | assumption | decide | (refine vp_in_nI ?_ ?_ <;> omega) | omega | simp_all) (fun w122 hw122 => b_M_does_132 (b_M_does_159 ?_)))))
          rw [nI_1]
          refine nxt _ ?_
          rw [hw122, i2]
          have e7 : chS (cS c y) (p y) = up2 v 96 (2 + y) (chW (cW c y) (p y)) 96 (7 + y) := by rw [up2_s, vau_n (by omega), eS, h5]; rfl
          rw [e7, up2_up1 (i := 96) (k := 7 + y), vau_id, up1_id, h5]; rfl
        · have g5 : ¬ v 106 (nI y).toNatClampNeg = 5 := by rw [e6]; exact fun q => h5 ((nI_5 (by omega)).mp q)
          by_cases h6 : p y = 6
          · have g6 : ¬ ¬ 5 ≤ v 106 (nI y).toNatClampNeg := fun q => q (by rw [e6, h6]; decide)
            refine b_M_does_95 (fun h95 => absurd h95 (by first | decide | assumption | omega | simp_all)) (fun h95 => b_M_does_106 (fun h106 => absurd h106 (by first | decide | assumption | omega | simp_all)) (fun h106 => b_M_does_111 (by first | assumption | decide | (refine vp_in_nI ?_ ?_ <;> omega) | omega | simp_all) (fun h111 => b_M_does_135 (by first | assumption | decide | (refine vp_in_nI ?_ ?_ <;> omega) | omega | simp_all) (fun h135 => b_M_does_159 ?_) (fun h135 => absurd h135 (by first | decide | assumption | omega | simp_all))) (fun h111 => absurd h111 (by first | decide | assumption | omega | simp_all))))
            rw [nI_1]
            refine nxt _ ?_
            rw [show chW (cW c y) (p y) = v 96 (2 + y) by rw [h6, eW]; rfl, up2_up1 (i := 96) (k := 2 + y), vau_id, up1_id, show chS (cS c y) (p y) = v 96 (7 + y) by rw [h6, eS]; rfl, up2_up1, vau_id, up1_id]
          · have g6 : ¬ 5 ≤ v 106 (nI y).toNatClampNeg := by rw [e6]; exact nI_ge (a := p y) (b := 5) (by omega) (by omega)
            refine b_M_does_95 (fun h95 => absurd h95 (by first | decide | assumption | omega | simp_all)) (fun h95 => b_M_does_106 (fun h106 => absurd h106 (by first | decide | assumption | omega | simp_all)) (fun h106 => b_M_does_111 (by first | assumption | decide | (refine vp_in_nI ?_ ?_ <;> omega) | omega | simp_all) (fun h111 => b_M_does_135 (by first | assumption | decide | (refine vp_in_nI ?_ ?_ <;> omega) | omega | simp_all) (fun h135 => absurd h135 (by first | decide | assumption | omega | simp_all)) (fun h135 => b_M_does_146 (by first | assumption | decide | (refine vp_in_nI ?_ ?_ <;> omega) | omega | simp_all) ?_)) (fun h111 => absurd h111 (by first | decide | assumption | omega | simp_all))))
            rw [e6]
            refine c_M_sews (by omega) ?_
            refine b_M_does_159 ?_
            rw [nI_1]
            refine nxt _ ?_
            rw [chW_l (by omega), chS_l (by omega)]
  have scan : ∀ k, k ≤ cN c → ∀ u, asd vi u → u 95 = w 95 → MV c 0 (u 96) → (∀ y, k ≤ y → y < cN c → u 106 y = nI (p y)) → wp X (d + 2) k_M_does 0 0 17 [some (.ref 95), some (.int (nI code)), some (.int (nI (code / 7 ^ (cN c - k)))), some (.int (nI (ctP p (cN c) - ctP p k))), some (.int (bI (alF (fun y => alC (cW c y) (p y)) k (cN c - k)))), some (.int (nI k - 1))] [] (mk u vl) post := by
    intro k
    induction k with
    | zero =>
      intro _ u hau k95 hVu h6
      have g1 : ¬ ¬ nI 0 - 1 < 0 := by decide
      refine b_M_does_17 (fun h17 => ?_) (fun h17 => absurd h17 (by first | decide | assumption | omega | simp_all))
      have : ctP p (cN c) - ctP p 0 = ctP p (cN c) := by show ctP p (cN c) - 0 = _; omega
      rw [this, Nat.sub_zero]
      exact back u _ _ _ hau k95 hVu (fun y hy => h6 y (Nat.zero_le _) hy) rfl
    | succ k ihk =>
      intro hk u hau k95 hVu h6
      have ihk := ihk (by omega)
      rw [nI_pred]
      have em : nI k + -1 = nI k - 1 := by rw [Int32.sub_eq_add_neg]
      have g1 : ¬ nI k < 0 := nI_pos (by omega)
      have ck : (nI k).toNatClampNeg = k := nI_clamp (by omega)
      have vk : vp_in (nI k) 5 := vp_in_nI (by omega) (by omega)
      have hlt : code / 7 ^ (cN c - (k + 1)) < 2 ^ 31 := Nat.lt_of_le_of_lt (Nat.div_le_self _ _) (by omega)
      have epk : code / 7 ^ (cN c - (k + 1)) % 7 = p k := by rw [← hp]; unfold dgc; rw [show cN c - (k + 1) = cN c - 1 - k by omega]
      have ed : code / 7 ^ (cN c - (k + 1)) / 7 = code / 7 ^ (cN c - k) := by rw [Nat.div_div_eq_div_mul, ← Nat.pow_succ, show (cN c - (k + 1)).succ = cN c - k by omega]
      have hpk := hp7 k
      have hct := ctP_s (p := p) (y := k)
      have hcl := ctP_le (p := p) (y := k + 1) (n := cN c) hk
      have eal : alF (fun y => alC (cW c y) (p y)) k (cN c - k) = (alC (cW c k) (p k) && alF (fun y => alC (cW c y) (p y)) (k + 1) (cN c - (k + 1))) := by rw [show cN c - k = (cN c - (k + 1)) + 1 by omega]; rfl
      rw [eal] at ihk
      generalize alF (fun y => alC (cW c y) (p y)) (k + 1) (cN c - (k + 1)) = b at ihk
      have hau2 : asd vi (up2 u 106 k (nI (p k))) := asd_106 hau
      have hV2 : MV c 0 (up2 u 106 k (nI (p k)) 96) := by rw [up2_n (by decide)]; exact hVu
      have h62 : ∀ y, k ≤ y → y < cN c → up2 u 106 k (nI (p k)) 106 y = nI (p y) := fun y h1 h2 => by
        rw [up2_s]
        by_cases hyk : y = k
        · subst hyk; rw [vau_s]
        · rw [vau_n hyk]; exact h6 y (by omega) h2
      have e6 : up2 u 106 k (nI (p k)) 106 (nI k).toNatClampNeg = nI (p k) := by rw [ck]; exact h62 k (Nat.le_refl _) (by omega)
      have ihk := ihk _ hau2 (by rw [up2_n (by decide)]; exact k95) hV2 h62
      have e2 : up2 u 106 k (nI (p k)) 96 (2 + k) = cW c k := by rw [up2_n (by decide)]; exact (hVu.y (by omega)).1
      generalize hu2 : up2 u 106 k (nI (p k)) = u2 at hau2 hV2 h62 e6 ihk e2
      have fin : ∀ (b2 : Bool) x4, b2 = (alC (cW c k) (p k) && b) → wp X (d + 2) k_M_does 0 0 64 [some (.ref 95), some (.int (nI code)), some (.int (nI (code / 7 ^ (cN c - k)))), some (.int (nI (ctP p (cN c) - ctP p (k + 1)))), some (.int x4), some (.int (nI k))] [.int (bI b2)] (mk u2 vl) post := by
        intro b2 x4 hb2
        rw [← hb2] at ihk
        by_cases hp6 : p k = 6
        · have g6 : ¬ ¬ u2 106 (nI k).toNatClampNeg = 6 := fun q => q (by rw [e6, hp6]; rfl)
          rw [if_pos hp6] at hct
          refine b_M_does_64 (by first | assumption | decide | (refine vp_in_nI ?_ ?_ <;> omega) | omega | simp_all) (fun h64 => absurd h64 (by first | decide | assumption | omega | simp_all)) (fun h64 => b_M_does_79 (b_M_does_84 ?_))
          rw [em, Int32.add_zero, show ctP p (cN c) - ctP p (k + 1) = ctP p (cN c) - ctP p k by omega]
          exact ihk
        · have g6 : ¬ u2 106 (nI k).toNatClampNeg = 6 := by rw [e6]; exact fun q => hp6 ((nI_6 (by omega)).mp q)
          rw [if_neg hp6] at hct
          refine b_M_does_64 (by first | assumption | decide | (refine vp_in_nI ?_ ?_ <;> omega) | omega | simp_all) (fun h64 => b_M_does_83 (b_M_does_84 ?_)) (fun h64 => absurd h64 (by first | decide | assumption | omega | simp_all))
          rw [em, nI_1, show ctP p (cN c) - ctP p (k + 1) + 1 = ctP p (cN c) - ctP p k by omega]
          exact ihk
      refine b_M_does_17 (fun h17 => absurd h17 (by first | decide | assumption | omega | simp_all)) (fun h17 => b_M_does_22 (by first | assumption | decide | (refine vp_in_nI ?_ ?_ <;> omega) | omega | simp_all) (fun w22 hw22 => ?_))
      rw [nI_m7 hlt, epk, ck] at hw22
      rw [hw22, hu2]
      cases b
      · refine b_M_does_33 (fun h33 => b_M_does_63 ?_) (fun h33 => absurd h33 (by first | decide | assumption | omega | simp_all))
        rw [nI_d7 hlt, ed]
        exact fin false _ (by rw [Bool.and_false])
      · refine b_M_does_33 (fun h33 => absurd h33 (by first | decide | assumption | omega | simp_all)) (fun h33 => b_M_does_43 (by first | assumption | decide | (refine vp_in_nI ?_ ?_ <;> omega) | omega | simp_all) ?_)
        rw [e6]
        refine c_M_canBe (c := c) hw (by omega) e2 ?_
        rw [alC_b hpk]
        cases hal : alC (cW c k) (p k)
        · refine b_M_does_56 (fun h56 => b_M_does_63 ?_) (fun h56 => absurd h56 (by first | decide | assumption | omega | simp_all))
          rw [nI_d7 hlt, ed]
          exact fin false _ (by rw [hal]; rfl)
        · refine b_M_does_56 (fun h56 => absurd h56 (by first | decide | assumption | omega | simp_all)) (fun h56 => b_M_does_59 ?_)
          rw [nI_d7 hlt, ed]
          exact fin true _ (by rw [hal]; rfl)
  have := scan (cN c) (Nat.le_refl _) w ha rfl hV (fun y h1 h2 => absurd h1 (by omega))
  rw [Nat.sub_self, Nat.pow_zero, Nat.div_one, Nat.sub_self] at this
  exact this
end S71
