/-! the reference: forged -/
theorem frF_app {p : Nat → Bool} : ∀ (m i : Nat), i + m < 2 ^ 31 → frF p i (m + 1) = if frF p i m = -9 then (if p (i + m) then nI (i + m) else -9) else frF p i m
  | 0, i, _ => by simp [frF]
  | m + 1, i, h => by
    rw [show frF p i (m + 1 + 1) = (if p i then nI i else frF p (i + 1) (m + 1)) from rfl, show frF p i (m + 1) = (if p i then nI i else frF p (i + 1) m) from rfl]
    by_cases hp : p i = true
    · rw [if_pos hp, if_pos hp, if_neg (nI_n9 (by omega))]
    · rw [if_neg hp, if_neg hp, frF_app m (i + 1) (by omega), show i + 1 + m = i + (m + 1) by omega]
theorem gd_F {c : Cl} {most code : Nat} {f : Nat → Int32} (hw : wfC c) (hf : ∀ y, y < cN c → f y = -9 ∨ vp_in (f y) 5) : gd c (wanF f) false false most code = true ↔ alF (fun y => alC (cW c y) (dgc (cN c) code y)) 0 (cN c) = true ∧ ctP (dgc (cN c) code) (cN c) ≤ most ∧ hpAs (plC c (dgc (cN c) code) (cN c)) f = true := by
  rw [gd_iff hw.2.1, alF_iff]
  unfold hpAs
  rw [alF_iff]
  constructor
  · rintro ⟨h1, h2, h3, h4⟩
    have hal : ∀ y, y < cN c → alC (cW c y) (dgc (cN c) code y) = true := fun y hy => by rw [← alP_f]; exact h1 y hy
    refine ⟨fun k _ hk => hal k (by omega), h2, fun k _ hk => ?_⟩
    have hk : k < cN c := by have : k < 0 + cN c := hk; omega
    have := h3 k hk
    unfold wanF at this
    rw [hb_F (pl_rng hw (fun _ => dgc_7) hal hk) (hf k hk)] at this
    exact decide_eq_true (Decidable.not_not.mp this)
  · rintro ⟨h1, h2, h3⟩
    have hal : ∀ y, y < cN c → alC (cW c y) (dgc (cN c) code y) = true := fun y hy => h1 y (Nat.zero_le _) (by omega)
    refine ⟨fun y hy => by rw [alP_f]; exact hal y hy, h2, fun z hz => ?_, fun q => by cases q⟩
    unfold wanF
    rw [hb_F (pl_rng hw (fun _ => dgc_7) hal hz) (hf z hz)]
    exact fun q => q (of_decide_eq_true (h3 z (Nat.zero_le _) (show z < 0 + cN c by omega)))
theorem ct_0 {p : Nat → Nat} : ∀ n, ctP p n = 0 → n < 2 ^ 31 → frF (fun y => !decide (p y = 6)) 0 n = -9
  | 0, _, _ => rfl
  | n + 1, h, hn => by
    rw [ctP_s] at h
    by_cases h6 : p n = 6
    · rw [if_pos h6] at h
      rw [frF_app n 0 (by omega), ct_0 n (by omega) (by omega), if_pos rfl, Nat.zero_add, decide_eq_true h6]; rfl
    · rw [if_neg h6] at h; omega
theorem hs_f {A : aA} {r : Nat} (h : hsF A r = 0) : ∀ y, y < cN (aCu A) → aRp A r y = -9 ∨ vp_in (aRp A r y) 5 := by
  unfold hsF at h
  intro y hy
  by_cases h1 : aRs A r = -1
  · rw [if_pos h1] at h; exact absurd h (by decide)
  · rw [if_neg h1] at h
    by_cases h2 : aRs A r = nI (cN (aCu A))
    · rw [if_pos h2] at h
      by_cases h3 : alF (fun y => hvB (aRp A r y)) 0 (cN (aCu A)) = true
      · have := alF_iff _ _ |>.mp h3 y (Nat.zero_le _) (by omega)
        unfold hvB at this
        rw [Bool.or_eq_true] at this
        rcases this with q | q
        · exact Or.inl (of_decide_eq_true q)
        · by_cases hn : vp_in (aRp A r y) 5
          · exact Or.inr hn
          · rw [inB_f hn] at q; cases q
      · rw [if_neg h3] at h; exact absurd h (by decide)
    · rw [if_neg h2] at h; exact absurd h (by decide)
section S75
variable {X : aX} {d : Nat} {vi : Nat → Nat → Int32} {vl : Nat → Nat → Int64} {post : aO} {A : aA} {c : Cl} {f g : Nat → Int32}
def fsT (c : Cl) (g : Nat → Bool) (k : Nat) : Int32 := if cn g k = 0 then -9 else fcT c (fsC g k)
theorem fsT_f {g : Nat → Bool} {k : Nat} (h : ¬ g k = true) : fsT c g (k + 1) = fsT c g k := by
  unfold fsT
  rw [cn_f (Bool.eq_false_iff.mpr h)]
  by_cases h0 : cn g k = 0
  · rw [if_pos h0, if_pos h0]
  · rw [if_neg h0, if_neg h0]
    show fcT c (if 0 < cn g k then fsC g k else k) = _
    rw [if_pos (by omega)]
theorem fsT_t {g : Nat → Bool} {k : Nat} (h : g k = true) : fsT c g (k + 1) = if cn g k = 0 then fcT c k else fsT c g k := by
  unfold fsT
  rw [cn_t h, if_neg (by omega)]
  show fcT c (if 0 < cn g k then fsC g k else k) = _
  by_cases h0 : cn g k = 0
  · rw [if_neg (by omega), if_pos h0]
  · rw [if_pos (by omega), if_neg h0, if_neg h0]
theorem m_forged {r : Int32} (hW : wfA A) (hA : AbM A vi vl) (hQ : PM vi vl post (oForged A r)) : CallOk X (d + 5) 0 0 k_M_forged [.ref 95, .int r] (mk vi vl) post := by
  refine CallOk.intro (by decide +kernel) rfl (Nat.le_of_ble_eq_true rfl) ?_
  unfold oForged at hQ
  have h5' := hW.N5
  have hp := hW.2.2.1.p
  have hwc := hW.2.2.1
  have hn : vi 96 0 = nI (cN (aCu A)) := hA.V.1
  refine b_M_forged_0 ?_
  refine c_M_isRow ?_
  by_cases hr : vp_in r 6
  · rw [inB_t hr] at hQ ⊢
    rw [if_pos rfl] at hQ
    obtain ⟨m, hm, rfl⟩ := vp_in_of hr (by decide)
    have cm : (nI m).toNatClampNeg = m := nI_clamp (by omega)
    rw [cm] at hQ
    have q0 : (nI (cN (aCu A)) = 0) ↔ cN (aCu A) = 0 := nI_eq (b := 0) (by omega) (by omega)
    by_cases h0 : cN (aCu A) = 0
    · have g : ¬ ¬ vi 96 0 = 0 := fun q => q (by rw [hn]; exact q0.mpr h0)
      rw [if_pos h0] at hQ
      refine b_M_forged_4 (fun h4 => b_M_forged_9 (fun h9 => absurd h9 (by first | decide | assumption | omega | simp_all)) (fun h9 => b_M_forged_18 ?_)) (fun h4 => absurd h4 (by first | decide | assumption | omega | simp_all))
      exact hQ _ _ hA smC_rf
    · have g : ¬ vi 96 0 = 0 := by rw [hn]; exact fun q => h0 (q0.mp q)
      rw [if_neg h0] at hQ
      refine b_M_forged_4 (fun h4 => b_M_forged_9 (fun h9 => b_M_forged_21 ?_) (fun h9 => absurd h9 (by first | decide | assumption | omega | simp_all))) (fun h4 => absurd h4 (by first | decide | assumption | omega | simp_all))
      refine c_M_against hW hA hm (fun hz => ?_) (fun f hf h1 h5 => ?_)
      · rw [if_pos hz] at hQ
        have hff := hs_f hz
        have h7 := pow7_le h5'
        have g0 : ¬ ¬ (0 : Int32) ≤ 0 := by decide
        refine b_M_forged_26 (fun h26 => b_M_forged_33 ?_) (fun h26 => absurd h26 (by first | decide | assumption | omega | simp_all))
        refine c_M_plans hp.1 hA.V ?_
        refine b_M_forged_37 ?_
        refine c_M_lays (fun u0 ha0 h00 => ?_)
        have hQ2 : PM vi vl post (nI (cn (gd (aCu A) (wanF (aRp A m)) false false 1) (7 ^ cN (aCu A))), tAk A (fsT (aCu A) (gd (aCu A) (wanF (aRp A m)) false false 1) (7 ^ cN (aCu A)))) := hQ
        generalize hgg : gd (aCu A) (wanF (aRp A m)) false false 1 = G at hQ2
        refine b_M_forged_49 ?_
        have key := loop_up (P := fun code => ∀ w l7 l8, asd vi w → (∀ k, k < 36 → w 96 k = vi 96 k) → wp X (d + 5) k_M_forged 0 0 52 [some (.ref 95), some (.int (nI m)), some (.int 0), some (.int (nI (7 ^ cN (aCu A)))), some (.int (nI (cn G code))), some (.int (fsT (aCu A) G code)), some (.int (nI code)), l7, l8] [] (mk w vl) post) (7 ^ cN (aCu A)) 0 (Nat.zero_le _) ?_ ?_
        · exact key u0 _ _ ha0 h00
        · intro w l7 l8 ha hw0
          have g1 : ¬ ¬ nI (7 ^ cN (aCu A)) ≤ nI (7 ^ cN (aCu A)) := fun q => q (Int32.le_refl _)
          refine b_M_forged_52 (fun h52 => b_M_forged_144 ?_) (fun h52 => absurd h52 (by first | decide | assumption | omega | simp_all))
          refine c_M_tells ?_
          refine b_M_forged_152 ?_
          have hsc := asd_sc ha hw0
          exact hQ2 _ _ (AbM_ak hW (AbM_sc hW hA hsc rfl rfl) _) (smC_tr (smC_sc hsc) (smC_of fun q hq => up2_n (by omega)))
        · intro code _ hcode ih w l7 l8 ha hw0
          have g1 : ¬ nI (7 ^ cN (aCu A)) ≤ nI code := nI_ge hcode (by omega)
          have hV : MV (aCu A) 0 (w 96) := MV_fr hp.1 hA.V (fun k _ hk => hw0 k (by omega))
          have hgd := gd_F (most := 1) (code := code) hwc hff
          rw [hgg] at hgd
          have no : ∀ u x7 l8, ¬ G code = true → asd vi u → wp X (d + 5) k_M_forged 0 0 134 [some (.ref 95), some (.int (nI m)), some (.int 0), some (.int (nI (7 ^ cN (aCu A)))), some (.int (nI (cn G code))), some (.int (fsT (aCu A) G code)), some (.int (nI code)), some (.int x7), l8] [] (mk u vl) post := by
            intro u x7 l8 hg hu
            refine b_M_forged_134 ?_
            refine c_M_putsBack hu (fun u2 hu2 hu0 _ => ?_)
            refine b_M_forged_138 ?_
            rw [nI_1, ← cn_f (Bool.eq_false_iff.mpr hg), ← fsT_f (c := aCu A) hg]
            exact ih u2 _ _ hu2 hu0
          refine b_M_forged_52 (fun h52 => absurd h52 (by first | decide | assumption | omega | simp_all)) (fun h52 => b_M_forged_58 ?_)
          refine c_M_does (c := aCu A) hp.1 hcode ha hV (fun u hal hau _ _ _ => ?_) (fun u hal hau _ hVu h106 => ?_)
          · refine b_M_forged_64 ?_
            refine c_M_in ?_
            rw [show decide ((0 : Int64).toInt ≤ (-1 : Int32).toInt64.toInt ∧ (-1 : Int32).toInt64.toInt ≤ (1 : Int64).toInt) = false by decide]
            refine b_M_forged_74 (fun h74 => ?_) (fun h74 => absurd h74 (by first | decide | assumption | omega | simp_all))
            exact no u _ _ (fun q => by have := (hgd.mp q).1; rw [hal] at this; cases this) hau
          · have hct : ctP (dgc (cN (aCu A)) code) (cN (aCu A)) ≤ cN (aCu A) := cn_le _ _
            have hcn : cn G code ≤ code := cn_le _ _
            refine b_M_forged_64 ?_
            refine c_M_in ?_
            rw [show (1 : Int64) = lN 1 from rfl, inK (by omega)]
            by_cases hc : ctP (dgc (cN (aCu A)) code) (cN (aCu A)) ≤ 1
            · rw [inB_nI (by omega) (by omega)]
              refine b_M_forged_74 (fun h74 => absurd h74 (by first | decide | assumption | omega | simp_all)) (fun h74 => b_M_forged_77 ?_)
              refine c_M_isSo (c := plC (aCu A) (dgc (cN (aCu A)) code) (cN (aCu A))) (f := aRp A m) (pl_wfP hp (fun _ => dgc_7)) hVu (by rw [hau.2.1 16 (by decide)]; exact hA.w) hm (fun k hk => by rw [hau.1 98 (by decide) (by decide) (by decide) (by decide) (by decide)]; exact (hA.1 m hm).2 k hk) (fun w3 ho3 => ?_)
              have ha3 := asd_45 hau ho3
              cases hs : hpAs (plC (aCu A) (dgc (cN (aCu A)) code) (cN (aCu A))) (aRp A m)
              · refine b_M_forged_82 (fun h82 => ?_) (fun h82 => absurd h82 (by first | decide | assumption | omega | simp_all))
                exact no w3 _ _ (fun q => by have := (hgd.mp q).2.2; rw [hs] at this; cases this) ha3
              · have hg : G code = true := hgd.mpr ⟨hal, hc, hs⟩
                have e0 : w3 96 0 = nI (cN (aCu A)) := by rw [ho3 96 (by decide) (by decide)]; exact hVu.1
                have e6 : ∀ y, y < cN (aCu A) → w3 106 y = nI (dgc (cN (aCu A)) code y) := fun y hy => by rw [ho3 106 (by decide) (by decide)]; exact h106 y hy
                have fin : ∀ x5 x7 x8, x5 = fsT (aCu A) G (code + 1) → wp X (d + 5) k_M_forged 0 0 131 [some (.ref 95), some (.int (nI m)), some (.int 0), some (.int (nI (7 ^ cN (aCu A)))), some (.int (nI (cn G code))), some (.int x5), some (.int (nI code)), some (.int x7), some (.int x8)] [] (mk w3 vl) post := by
                  intro x5 x7 x8 hx
                  refine b_M_forged_131 (b_M_forged_134 ?_)
                  refine c_M_putsBack ha3 (fun u2 hu2 hu0 _ => ?_)
                  refine b_M_forged_138 ?_
                  rw [nI_1, nI_1, ← cn_t hg, hx]
                  exact ih u2 _ _ hu2 hu0
                rw [fsT_t hg] at fin
                refine b_M_forged_82 (fun h82 => absurd h82 (by first | decide | assumption | omega | simp_all)) (fun h82 => b_M_forged_85 ?_)
                by_cases hn0 : cn G code = 0
                · rw [if_pos hn0] at fin
                  have ef : fsT (aCu A) G code = -9 := by unfold fsT; rw [if_pos hn0]
                  rw [ef]
                  have z4 : ¬ ¬ nI (cn G code) = 0 := fun q => q (by rw [hn0]; rfl)
                  have key3 := loop_up (P := fun y => ∀ x5, x5 = frF (fun y => !decide (dgc (cN (aCu A)) code y = 6)) 0 y → wp X (d + 5) k_M_forged 0 0 88 [some (.ref 95), some (.int (nI m)), some (.int 0), some (.int (nI (7 ^ cN (aCu A)))), some (.int (nI (cn G code))), some (.int x5), some (.int (nI code)), some (.int (nI (ctP (dgc (cN (aCu A)) code) (cN (aCu A))))), some (.int (nI y))] [] (mk w3 vl) post) (cN (aCu A)) 0 (Nat.zero_le _) ?_ ?_
                  · exact key3 (-9) rfl
                  · intro x5 hx
                    have g3 : ¬ ¬ w3 96 0 ≤ nI (cN (aCu A)) := fun q => q (by rw [e0]; exact Int32.le_refl _)
                    refine b_M_forged_88 (fun h88 => ?_) (fun h88 => absurd h88 (by first | decide | assumption | omega | simp_all))
                    exact fin _ _ _ hx
                  · intro y _ hy ih3 x5 hx
                    have g3 : ¬ w3 96 0 ≤ nI y := by rw [e0]; exact nI_ge hy (by omega)
                    have cy : (nI y).toNatClampNeg = y := nI_clamp (by omega)
                    have vy : vp_in (nI y) 5 := vp_in_nI (by omega) (by omega)
                    have eap := frF_app (p := fun y => !decide (dgc (cN (aCu A)) code y = 6)) y 0 (by omega)
                    rw [Nat.zero_add, ← hx] at eap
                    have h7' : dgc (cN (aCu A)) code y < 7 := dgc_7
                    by_cases h6 : dgc (cN (aCu A)) code y = 6
                    · have g6 : ¬ ¬ w3 106 (nI y).toNatClampNeg = 6 := fun q => q (by rw [cy, e6 y hy, h6]; rfl)
                      refine b_M_forged_88 (fun h88 => absurd h88 (by first | decide | assumption | omega | simp_all)) (fun h88 => b_M_forged_99 (fun h99 => absurd h99 (by first | decide | assumption | omega | simp_all)) (fun h99 => b_M_forged_104 (by first | assumption | decide | (refine vp_in_nI ?_ ?_ <;> omega) | omega | simp_all) (fun h104 => absurd h104 (by first | decide | assumption | omega | simp_all)) (fun h104 => b_M_forged_116 (b_M_forged_123 ?_))))
                      rw [nI_1]
                      refine ih3 _ ?_
                      rw [eap]
                      simp only [decide_eq_true h6]
                      by_cases h9 : x5 = -9
                      · rw [if_pos h9, h9]; rfl
                      · rw [if_neg h9]
                    · have g6 : ¬ w3 106 (nI y).toNatClampNeg = 6 := by rw [cy, e6 y hy]; exact fun q => h6 ((nI_6 (by omega)).mp q)
                      refine b_M_forged_88 (fun h88 => absurd h88 (by first | decide | assumption | omega | simp_all)) (fun h88 => b_M_forged_99 (fun h99 => absurd h99 (by first | decide | assumption | omega | simp_all)) (fun h99 => b_M_forged_104 (by first | assumption | decide | (refine vp_in_nI ?_ ?_ <;> omega) | omega | simp_all) (fun h104 => b_M_forged_121 (b_M_forged_123 ?_)) (fun h104 => absurd h104 (by first | decide | assumption | omega | simp_all))))
                      rw [nI_1]
                      refine ih3 _ ?_
                      have hc1 := ctP_s (p := dgc (cN (aCu A)) code) (y := y)
                      rw [if_neg h6] at hc1
                      have hc2 := ctP_le (p := dgc (cN (aCu A)) code) (y := y + 1) (n := cN (aCu A)) (by omega)
                      have hx9 : x5 = -9 := by rw [hx]; exact ct_0 y (by omega) (by omega)
                      rw [eap, if_pos hx9]
                      simp only [decide_eq_false h6]
                      rfl
                · rw [if_neg hn0] at fin
                  have g3 : ¬ w3 96 0 ≤ 0 := by rw [e0]; exact nI_nle (by omega) (by omega)
                  have z4 : ¬ nI (cn G code) = 0 := nI_ne0 (by omega) (by omega)
                  refine b_M_forged_88 (fun h88 => absurd h88 (by first | decide | assumption | omega | simp_all)) (fun h88 => b_M_forged_99 (fun h99 => ?_) (fun h99 => absurd h99 (by first | decide | assumption | omega | simp_all)))
                  exact fin _ _ _ rfl
            · rw [inB_f (fun q => hc (by have := (vin_nI (by omega)).mp q; omega))]
              refine b_M_forged_74 (fun h74 => ?_) (fun h74 => absurd h74 (by first | decide | assumption | omega | simp_all))
              exact no u _ _ (fun q => hc (hgd.mp q).2.1) hau
      · rw [if_neg (by omega), hf] at hQ
        have g0 : ¬ (0 : Int32) ≤ -3 := by decide
        refine b_M_forged_26 (fun h26 => absurd h26 (by first | decide | assumption | omega | simp_all)) (fun h26 => b_M_forged_31 ?_)
        exact hQ _ _ (AbM_fd hW hA (by omega)) (smC_of fun j hj => fd_o hj)
  · rw [inB_f hr] at hQ ⊢
    rw [if_neg (fun q => by cases q)] at hQ
    refine b_M_forged_4 (fun h4 => absurd h4 (by first | decide | assumption | omega | simp_all)) (fun h4 => b_M_forged_7 ?_)
    exact hQ _ _ hA smC_rf
end S75
