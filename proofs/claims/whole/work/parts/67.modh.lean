/-! the reference: lots, digest -/
section S67
variable {X : aX} {d : Nat} {vi : Nat → Nat → Int32} {vl : Nat → Nat → Int64} {post : aO} {A : aA} {c : Cl} {f g : Nat → Int32}
theorem m_lots {n s : Int32} (hW : wfA A) (hA : AbM A vi vl) (hQ : PM vi vl post (oLots A n s)) : CallOk X (d + 5) 0 0 k_M_lots [.ref 95, .int n, .int s] (mk vi vl) post := by
  refine CallOk.intro (by decide +kernel) rfl (Nat.le_of_ble_eq_true rfl) ?_
  unfold oLots at hQ
  have h5' := hW.N5
  have hn : vi 96 0 = nI (cN (aCu A)) := hA.V.1
  have ht7 : vi 95 1 = nI (cT (aCu A)) := hA.2.2.1.2
  have h40 : cT (aCu A) ≤ 40 := hW.2.2.1.2.2.1
  have c1 : (1 : Int64).toInt = 1 := rfl
  have c10 : (10 : Int64).toInt = 10 := rfl
  have cM : (2147483646 : Int64).toInt = 2147483646 := rfl
  refine b_M_lots_0 ?_
  refine c_M_in ?_
  rw [Int32.toInt_toInt64, c1, c10]
  by_cases hb1 : 1 ≤ n.toInt ∧ n.toInt ≤ 10
  · rw [decide_eq_true hb1]
    refine b_M_lots_9 (fun h9 => absurd h9 (by first | decide | assumption | omega | simp_all)) (fun h9 => b_M_lots_12 ?_)
    refine c_M_in ?_
    rw [Int32.toInt_toInt64, c1, cM]
    by_cases hb2 : 1 ≤ s.toInt ∧ s.toInt ≤ 2147483646
    · rw [decide_eq_true hb2]
      rw [if_pos ⟨hb1, hb2⟩] at hQ
      obtain ⟨n1, n2⟩ := hb1
      obtain ⟨s1, s2⟩ := hb2
      obtain ⟨m, hm, rfl⟩ := nI_of (x := n) (fun q => by rw [Int32.lt_iff_toInt_lt] at q; have : (0 : Int32).toInt = 0 := rfl; omega)
      obtain ⟨x0, hx0, rfl⟩ := nI_of (x := s) (fun q => by rw [Int32.lt_iff_toInt_lt] at q; have : (0 : Int32).toInt = 0 := rfl; omega)
      rw [nI_toInt hm] at n1 n2
      rw [nI_toInt hx0] at s1 s2
      have cm : (nI m).toNatClampNeg = m := nI_clamp hm
      have cx : (nI x0).toNatClampNeg = x0 := nI_clamp hx0
      rw [cm, cx] at hQ
      have q0 : (nI (cN (aCu A)) = 0) ↔ cN (aCu A) = 0 := nI_eq (b := 0) (by omega) (by omega)
      by_cases h0 : cN (aCu A) = 0
      · have g : ¬ ¬ vi 96 0 = 0 := fun q => q (by rw [hn]; exact q0.mpr h0)
        rw [if_pos h0] at hQ
        refine b_M_lots_21 (fun h21 => b_M_lots_26 (fun h26 => absurd h26 (by first | decide | assumption | omega | simp_all)) (fun h26 => b_M_lots_35 ?_)) (fun h21 => absurd h21 (by first | decide | assumption | omega | simp_all))
        exact hQ _ _ hA smC_rf
      · have g : ¬ vi 96 0 = 0 := by rw [hn]; exact fun q => h0 (q0.mp q)
        rw [if_neg h0] at hQ
        by_cases hf : 40 < cT (aCu A) + m
        · have g5 : ¬ vi 95 1 + nI m ≤ 40 := by rw [ht7, nI_add]; exact nI_ge (a := 40) hf (by omega)
          rw [if_pos hf] at hQ
          refine b_M_lots_21 (fun h21 => b_M_lots_26 (fun h26 => b_M_lots_38 (fun h38 => absurd h38 (by first | decide | assumption | omega | simp_all)) (fun h38 => b_M_lots_49 ?_)) (fun h26 => absurd h26 (by first | decide | assumption | omega | simp_all))) (fun h21 => absurd h21 (by first | decide | assumption | omega | simp_all))
          exact hQ _ _ hA smC_rf
        · have g5 : ¬ ¬ vi 95 1 + nI m ≤ 40 := fun q => q (by rw [ht7, nI_add]; exact nI_le (b := 40) (by omega) (by omega))
          rw [if_neg hf] at hQ
          refine b_M_lots_21 (fun h21 => b_M_lots_26 (fun h26 => b_M_lots_38 (fun h38 => b_M_lots_52 ?_) (fun h38 => absurd h38 (by first | decide | assumption | omega | simp_all))) (fun h26 => absurd h26 (by first | decide | assumption | omega | simp_all))) (fun h21 => absurd h21 (by first | decide | assumption | omega | simp_all))
          rw [nI_l hx0]
          have key := loop_up (P := fun i => ∀ w c x l6, x < 2147483647 → wfA (tCu A c) → AbM (tCu A c) w vl → cN c = cN (aCu A) → cT c + (m - i) ≤ 40 → lotR m (aCu A) x0 = lotR (m - i) c x → smC vi w vl vl → wp X (d + 5) k_M_lots 0 0 58 [some (.ref 95), some (.int (nI m)), some (.int (nI x0)), some (.long (lN x)), none, some (.int (nI i)), l6] [] (mk w vl) post) m 0 (Nat.zero_le _) ?_ ?_
          · exact key vi (aCu A) x0 _ (by omega) hW hA rfl (by omega) rfl smC_rf
          · intro w c x l6 hx hWc hAc hcN hT he hs
            rw [Nat.sub_self] at he
            have he : lotR m (aCu A) x0 = c := he
            have g6 : ¬ ¬ nI m ≤ nI m := fun q => q (Int32.le_refl _)
            refine b_M_lots_58 (fun h58 => b_M_lots_138 ?_) (fun h58 => absurd h58 (by first | decide | assumption | omega | simp_all))
            refine c_M_brokenNow (c := c) hWc.2.2.1.p hAc.V hAc.w (fun w3 ho _ => ?_)
            refine b_M_lots_142 ?_
            refine c_M_ones (brb_256 (c := c) hWc.2.2.1.v) ?_
            refine b_M_lots_145 ?_
            rw [he] at hQ
            exact hQ _ _ (AbM_brk hWc hAc ho) (smC_tr hs (smC_sc (sc_45 ho)))
          · intro i _ hi ih w c x l6 hx hWc hAc hcN hT he hs
            have hw : wfC c := hWc.2.2.1
            have hn5 := hw.1
            have hV : MV c 0 (w 96) := hAc.V
            have hc1 : w 95 1 = nI (cT c) := hAc.2.2.1.2
            have g6 : ¬ nI m ≤ nI i := nI_ge hi (by omega)
            rw [show m - i = (m - (i + 1)) + 1 by omega] at he
            have he : lotR m (aCu A) x0 = lotR (m - (i + 1)) (lotS c (lotX x)) (lotX x) := he
            have hX : lotX x < 2147483647 := Nat.mod_lt _ (by decide)
            have eX : lN x * 48271 - lN x * 48271 / 2147483647 * 2147483647 = lN (lotX x) := by
              rw [show (48271 : Int64) = lN 48271 from rfl, show (2147483647 : Int64) = lN 2147483647 from rfl, lN_mul, lN_mod (by omega) (by omega)]; rfl
            have e0 : (w 96 0).toInt64 = lN (cN c) := by rw [show w 96 0 = nI (cN c) from hV.1, nI_l (by omega)]
            have g7 : ¬ (w 96 0).toInt64 = 0 := by rw [e0]; exact fun q => by have := (lN_eq0 (by omega)).mp q; omega
            have hy : lotX x % cN c < cN c := Nat.mod_lt _ (by omega)
            have eY : ((lN x * 48271 - lN x * 48271 / 2147483647 * 2147483647) - (lN x * 48271 - lN x * 48271 / 2147483647 * 2147483647) / ((w 96 0).toInt64) * ((w 96 0).toInt64)).toInt32 = nI (lotX x % cN c) := by
              rw [eX, e0, lN_mod (by omega) (by omega), lN_i]
            generalize hyy : lotX x % cN c = y at hy eY
            have eS : lotS c (lotX x) = stc c y (if cW c y = 1 then 5 else lotX x / 32 % 5) := by unfold lotS; rw [hyy]
            have i2 : (2 + nI y).toNatClampNeg = 2 + y := by rw [ix2]; exact nI_clamp (by omega)
            have v2 : vp_in (2 + nI y) 5976 := by rw [ix2]; exact vp_in_nI (by omega) (by omega)
            refine b_M_lots_58 (fun h58 => absurd h58 (by first | decide | assumption | omega | simp_all)) (fun h58 => b_M_lots_64 (by first | assumption | decide | (refine vp_in_nI ?_ ?_ <;> omega) | omega | simp_all) ?_)
            rw [eY, eX]
            refine c_M_minds (T := cT c) (by omega) hc1 ?_
            have em : ∀ q, q < 36 → up2 (up1 w 96 (va_cpy (w 96) (w 96) 0 (36 * (cT c + 1)) 36)) 95 1 (nI (cT c + 1)) 96 q = w 96 q := fun q hq => by
              rw [up2_n (by decide), up1_s]; unfold va_cpy; rw [if_neg (by omega)]
            have e2 : up2 (up1 w 96 (va_cpy (w 96) (w 96) 0 (36 * (cT c + 1)) 36)) 95 1 (nI (cT c + 1)) 96 (2 + nI y).toNatClampNeg = cW c y := by rw [i2, em _ (by omega)]; exact (hV.y hy).1
            have fin : ∀ ch u, ((cW c y = 1 ∧ ch = 5) ∨ (¬ cW c y = 1 ∧ ch < 5)) → lotS c (lotX x) = stc c y ch → u = up2 (up2 (up2 (up1 w 96 (va_cpy (w 96) (w 96) 0 (36 * (cT c + 1)) 36)) 95 1 (nI (cT c + 1))) 96 (2 + y) (chW (cW c y) ch)) 96 (7 + y) (chS (cS c y) ch) → ∀ l6, wp X (d + 5) k_M_lots 0 0 58 [some (.ref 95), some (.int (nI m)), some (.int (nI x0)), some (.long (lN (lotX x))), none, some (.int (nI (i + 1))), l6] [] (mk u vl) post := by
              intro ch u hcase hS hu l6
              have hA2 : AbM (tCu A (stc c y ch)) u vl := AbM_stc (A := tCu A c) (ch := ch) hWc hAc hy (show cT c < 40 by omega) (by rw [hu, up2_s, up2_s, up2_n (by decide), up1_s]; rfl) (by rw [hu, up2_n (by decide), up2_n (by decide), up2_s, vau_s]; rfl) (fun k hk => by rw [hu, up2_n (by decide), up2_n (by decide), up2_s, vau_n hk, up1_n (by decide)]) (fun j a b => by rw [hu, up2_n b, up2_n b, up2_n a, up1_n b])
              have hW2 : wfA (tCu A (stc c y ch)) := stc_W (A := tCu A c) hWc hy (show cT c < 40 by omega) hcase
              refine ih u (stc c y ch) (lotX x) l6 hX hW2 hA2 hcN (show cT c + 1 + (m - (i + 1)) ≤ 40 by omega) (by rw [he, hS]) (smC_tr hs (smC_of fun q hq => ?_))
              rw [hu, up2_n (by omega), up2_n (by omega), up2_n (by omega), up1_n (by omega)]
            by_cases h1 : cW c y = 1
            · have g9 : ¬ ¬ up2 (up1 w 96 (va_cpy (w 96) (w 96) 0 (36 * (cT c + 1)) 36)) 95 1 (nI (cT c + 1)) 96 (2 + nI y).toNatClampNeg = 1 := fun q => q (by rw [e2]; exact h1)
              rw [if_pos h1] at eS
              refine b_M_lots_90 (by first | assumption | decide | (refine vp_in_nI ?_ ?_ <;> omega) | omega | simp_all) (fun h90 => absurd h90 (by first | decide | assumption | omega | simp_all)) (fun h90 => b_M_lots_103 (by first | assumption | decide | (refine vp_in_nI ?_ ?_ <;> omega) | omega | simp_all) (fun w103 hw103 => b_M_lots_113 (b_M_lots_132 ?_)))
              rw [nI_1]
              refine fin 5 _ (Or.inl ⟨h1, rfl⟩) eS ?_ _
              rw [hw103, i2]
              have e7 : chS (cS c y) 5 = up2 (up2 (up1 w 96 (va_cpy (w 96) (w 96) 0 (36 * (cT c + 1)) 36)) 95 1 (nI (cT c + 1))) 96 (2 + y) (chW (cW c y) 5) 96 (7 + y) := by
                rw [up2_s, vau_n (by omega), em _ (by omega), (hV.y hy).2]; rfl
              rw [e7, up2_up1 (i := 96) (k := 7 + y), vau_id, up1_id]
              rfl
            · have g9 : ¬ up2 (up1 w 96 (va_cpy (w 96) (w 96) 0 (36 * (cT c + 1)) 36)) 95 1 (nI (cT c + 1)) 96 (2 + nI y).toNatClampNeg = 1 := by rw [e2]; exact h1
              rw [if_neg h1] at eS
              have h5 : lotX x / 32 % 5 < 5 := Nat.mod_lt _ (by decide)
              have eZ : (lN (lotX x) / 32 - lN (lotX x) / 32 / 5 * 5).toInt32 = nI (lotX x / 32 % 5) := by
                rw [show (32 : Int64) = lN 32 from rfl, show (5 : Int64) = lN 5 from rfl, lN_div (by omega) (by omega), lN_mod (by omega) (by omega), lN_i]
              refine b_M_lots_90 (by first | assumption | decide | (refine vp_in_nI ?_ ?_ <;> omega) | omega | simp_all) (fun h90 => b_M_lots_116 ?_) (fun h90 => absurd h90 (by first | decide | assumption | omega | simp_all))
              rw [eZ]
              refine c_M_sews (by omega) ?_
              refine b_M_lots_132 ?_
              rw [nI_1]
              exact fin _ _ (Or.inr ⟨h1, h5⟩) eS (by rw [chW_l h5, chS_l h5]) _
    · rw [decide_eq_false hb2]
      rw [if_neg (fun q => hb2 q.2)] at hQ
      refine b_M_lots_21 (fun h21 => absurd h21 (by first | decide | assumption | omega | simp_all)) (fun h21 => b_M_lots_24 ?_)
      exact hQ _ _ hA smC_rf
  · rw [decide_eq_false hb1]
    rw [if_neg (fun q => hb1 q.1)] at hQ
    refine b_M_lots_9 (fun h9 => b_M_lots_24 ?_) (fun h9 => absurd h9 (by first | decide | assumption | omega | simp_all))
    exact hQ _ _ hA smC_rf
/-- the digest under way: nothing but what was played, and h -/
def dgS (vi w : Nat → Nat → Int32) (vl wl : Nat → Nat → Int64) (h : Int64) : Prop := (∀ j, j ≠ 104 → j ≠ 105 → w j = vi j) ∧ (∀ j, j ≠ 95 → wl j = vl j) ∧ (∀ k, k ≠ 19 → wl 95 k = vl 95 k) ∧ wl 95 19 = h
theorem dgS_A {w : Nat → Nat → Int32} {wl : Nat → Nat → Int64} {h : Int64} (hW : wfA A) (hA : AbM A vi vl) (hd : dgS vi w vl wl h) : AbM A w wl := AbM_sc hW hA (sc_45 hd.1) (hd.2.2.1 11 (by decide)) (hd.2.2.1 12 (by decide))
theorem dgS_45 {w u : Nat → Nat → Int32} {wl : Nat → Nat → Int64} {h : Int64} (hd : dgS vi w vl wl h) (ho : ∀ j, j ≠ 104 → j ≠ 105 → u j = w j) : dgS vi u vl wl h := ⟨fun j a b => by rw [ho j a b]; exact hd.1 j a b, hd.2⟩
theorem dgS_mix {w : Nat → Nat → Int32} {wl : Nat → Nat → Int64} {h v : Int64} (hd : dgS vi w vl wl h) : dgS vi w vl (up2 wl 95 19 (31 * wl 95 19 + v)) (31 * h + v) := ⟨hd.1, fun j hj => by rw [up2_n hj]; exact hd.2.1 j hj, fun k hk => by rw [up2_s, vau_n hk]; exact hd.2.2.1 k hk, by rw [up2_s, vau_s, hd.2.2.2]⟩
theorem m_digest (hW : wfA A) (hA : AbM A vi vl) (hQ : PN vi vl post (digT A, A)) : CallOk X (d + 5) 0 0 k_M_digest [.ref 95] (mk vi vl) post := by
  refine CallOk.intro (by decide +kernel) rfl (Nat.le_of_ble_eq_true rfl) ?_
  have h5' := hW.N5
  have h8' := hW.L8
  have hv := hW.2.2.1.v
  unfold digT at hQ
  refine b_M_digest_0 (fun w0 hw0 => b_M_digest_7 ?_)
  have d0 : dgS vi vi vl w0 17 := by rw [hw0]; exact ⟨fun _ _ _ => rfl, fun j hj => up2_n hj, fun k hk => by rw [up2_s, vau_n hk], by rw [up2_s, vau_s]⟩
  have key := loop_up (P := fun j => ∀ w wl, dgS vi w vl wl (fdP (fun w => cntT A (nI w)) j 17) → wp X (d + 5) k_M_digest 0 0 9 [some (.ref 95), some (.int (nI j)), none] [] (mk w wl) post) 9 0 (Nat.zero_le _) ?_ ?_
  · exact key vi w0 d0
  · intro w wl hd
    have g1 : ¬ ¬ (9 : Int32) ≤ nI 9 := by decide
    refine b_M_digest_9 (fun h9 => b_M_digest_31 ?_) (fun h9 => absurd h9 (by first | decide | assumption | omega | simp_all))
    have hA1 := dgS_A hW hA hd
    refine a_plays hW.2.2.1.p hA1.V hA1.w (fun w1 ho1 hP => ?_)
    have hd1 := dgS_45 hd ho1
    refine b_M_digest_35 ?_
    clear hd
    generalize fdP (fun w => cntT A (nI w)) 9 17 = H0 at hd1 hQ
    have e0 : w1 96 0 = nI (cN (aCu A)) := hP.1.1
    have e1 : w1 96 1 = nI (cL (aCu A)) := hP.1.2.1
    have ew : ∀ j, j ≠ 104 → j ≠ 105 → w1 j = vi j := hd1.1
    have key := loop_up (P := fun j => ∀ wl l2, dgS vi w1 vl wl (fdY (aCu A) j H0) → wp X (d + 5) k_M_digest 0 0 37 [some (.ref 95), some (.int (nI j)), l2] [] (mk w1 wl) post) (cN (aCu A)) 0 (Nat.zero_le _) ?_ ?_
    · exact key _ _ hd1
    · intro wl l2 hd
      have g1 : ¬ ¬ w1 96 0 ≤ nI (cN (aCu A)) := fun q => q (by rw [e0]; exact Int32.le_refl _)
      refine b_M_digest_37 (fun h37 => b_M_digest_77 ?_) (fun h37 => absurd h37 (by first | decide | assumption | omega | simp_all))
      generalize fdY (aCu A) (cN (aCu A)) H0 = H1 at hd hQ
      have key := loop_up (P := fun j => ∀ wl l2, dgS vi w1 vl wl (fdL (aCu A) j H1) → wp X (d + 5) k_M_digest 0 0 79 [some (.ref 95), some (.int (nI j)), l2] [] (mk w1 wl) post) (cL (aCu A)) 0 (Nat.zero_le _) ?_ ?_
      · exact key _ _ hd
      · intro wl l2 hd
        have g1 : ¬ ¬ w1 96 1 ≤ nI (cL (aCu A)) := fun q => q (by rw [e1]; exact Int32.le_refl _)
        refine b_M_digest_79 (fun h79 => b_M_digest_119 ?_) (fun h79 => absurd h79 (by first | decide | assumption | omega | simp_all))
        generalize fdL (aCu A) (cL (aCu A)) H1 = H2 at hd hQ
        have key := loop_up (P := fun j => ∀ wl l2, dgS vi w1 vl wl (fdP (kpT A) j H2) → wp X (d + 5) k_M_digest 0 0 121 [some (.ref 95), some (.int (nI j)), l2] [] (mk w1 wl) post) 3 0 (Nat.zero_le _) ?_ ?_
        · exact key _ _ hd
        · intro wl l2 hd
          have g1 : ¬ ¬ (3 : Int32) ≤ nI 3 := by decide
          refine b_M_digest_121 (fun h121 => b_M_digest_143 ?_) (fun h121 => absurd h121 (by first | decide | assumption | omega | simp_all))
          generalize fdP (kpT A) 3 H2 = H3 at hd hQ
          have key := loop_up (P := fun j => ∀ wl l2, dgS vi w1 vl wl (fdR (aRs A) (aRp A) j H3) → wp X (d + 5) k_M_digest 0 0 145 [some (.ref 95), some (.int (nI j)), l2] [] (mk w1 wl) post) 6 0 (Nat.zero_le _) ?_ ?_
          · exact key _ _ hd
          · intro wl l2 hd
            have g1 : ¬ ¬ (6 : Int32) ≤ nI 6 := by decide
            refine b_M_digest_145 (fun h145 => b_M_digest_202 ?_) (fun h145 => absurd h145 (by first | decide | assumption | omega | simp_all))
            generalize fdR (aRs A) (aRp A) 6 H3 = H4 at hd hQ
            have key := loop_up (P := fun j => ∀ wl l2, dgS vi w1 vl wl (fdR (aTs A) (aTp A) j H4) → wp X (d + 5) k_M_digest 0 0 204 [some (.ref 95), some (.int (nI j)), l2] [] (mk w1 wl) post) 4 0 (Nat.zero_le _) ?_ ?_
            · exact key _ _ hd
            · intro wl l2 hd
              have g1 : ¬ ¬ (4 : Int32) ≤ nI 4 := by decide
              refine b_M_digest_204 (fun h204 => b_M_digest_260 ?_) (fun h204 => absurd h204 (by first | decide | assumption | omega | simp_all))
              rw [hd.2.2.2]
              exact hQ _ _ (dgS_A hW hA hd) ⟨fun j hj => hd.1 j (by omega) (by omega), fun j hj => hd.2.1 j (by omega)⟩
            · intro j _ hj ih wl l2 hd
              have g1 : ¬ (4 : Int32) ≤ nI j := nI_ge (a := j) (b := 4) hj (by omega)
              have cj : (nI j).toNatClampNeg = j := nI_clamp (by omega)
              have vj : vp_in (nI j) 4 := vp_in_nI hj (by omega)
              obtain ⟨q1, q2⟩ := hA.2.1 j hj
              have f1 : w1 101 (nI j).toNatClampNeg = aTs A j := by rw [cj, ew 101 (by decide) (by decide)]; exact q1
              simp only [fdR] at ih
              refine b_M_digest_204 (fun h204 => absurd h204 (by first | decide | assumption | omega | simp_all)) (fun h204 => b_M_digest_209 (by first | assumption | decide | (refine vp_in_nI ?_ ?_ <;> omega) | omega | simp_all) ?_)
              rw [f1]
              refine c_M_mix ?_
              have hd2 := dgS_mix (v := (aTs A j).toInt64) hd
              generalize up2 wl 95 19 (31 * wl 95 19 + (aTs A j).toInt64) = wl2 at hd2
              refine b_M_digest_220 ?_
              generalize 31 * fdR (aTs A) (aTp A) j H4 + (aTs A j).toInt64 = H5 at hd2 ih
              obtain ⟨n, hn, en, hge, hle⟩ : ∃ n, n ≤ 60 ∧ (aTs A j).toNatClampNeg = n ∧ aTs A j ≤ nI n ∧ ∀ k, k < n → ¬ aTs A j ≤ nI k := by
                rcases sz_or (hW.2.1 j hj) (by omega) with ⟨p1, p2, p3⟩ | ⟨n, hn, p1, p2, p3, p4⟩
                · exact ⟨0, by omega, by rw [p1]; rfl, by rw [p1]; decide, fun k hk => absurd hk (Nat.not_lt_zero _)⟩
                · exact ⟨n, hn, by rw [p1]; exact nI_clamp (by omega), by rw [p1]; exact Int32.le_refl _, fun k hk => by rw [p1]; exact nI_ge hk (by omega)⟩
              rw [en] at ih
              have key2 := loop_up (P := fun k => ∀ wl, dgS vi w1 vl wl (fdP (aTp A j) k H5) → wp X (d + 5) k_M_digest 0 0 222 [some (.ref 95), some (.int (nI j)), some (.int (nI k))] [] (mk w1 wl) post) n 0 (Nat.zero_le _) ?_ ?_
              · exact key2 wl2 hd2
              · intro wl hd
                have g2 : ¬ ¬ w1 101 (nI j).toNatClampNeg ≤ nI n := fun q => q (by rw [f1]; exact hge)
                refine b_M_digest_222 (by first | assumption | decide | (refine vp_in_nI ?_ ?_ <;> omega) | omega | simp_all) (fun h222 => b_M_digest_254 ?_) (fun h222 => absurd h222 (by first | decide | assumption | omega | simp_all))
                rw [nI_1]
                exact ih wl _ hd
              · intro k _ hk ih2 wl hd
                have g2 : ¬ w1 101 (nI j).toNatClampNeg ≤ nI k := by rw [f1]; exact hle k hk
                have v1 : vp_in (60 * nI j + nI k) 240 := by rw [ix60]; exact vp_in_nI (by omega) (by omega)
                have f2 : w1 100 (60 * nI j + nI k).toNatClampNeg = aTp A j k := by rw [ix60, nI_clamp (by omega), ew 100 (by decide) (by decide)]; exact q2 k (by omega)
                refine b_M_digest_222 (by first | assumption | decide | (refine vp_in_nI ?_ ?_ <;> omega) | omega | simp_all) (fun h222 => absurd h222 (by first | decide | assumption | omega | simp_all)) (fun h222 => b_M_digest_232 (by first | assumption | decide | (refine vp_in_nI ?_ ?_ <;> omega) | omega | simp_all) ?_)
                rw [f2]
                refine c_M_mix ?_
                refine b_M_digest_248 ?_
                rw [nI_1]
                exact ih2 _ (dgS_mix hd)
          · intro j _ hj ih wl l2 hd
            have g1 : ¬ (6 : Int32) ≤ nI j := nI_ge (a := j) (b := 6) hj (by omega)
            have cj : (nI j).toNatClampNeg = j := nI_clamp (by omega)
            have vj : vp_in (nI j) 6 := vp_in_nI hj (by omega)
            obtain ⟨q1, q2⟩ := hA.1 j hj
            have f1 : w1 99 (nI j).toNatClampNeg = aRs A j := by rw [cj, ew 99 (by decide) (by decide)]; exact q1
            simp only [fdR] at ih
            refine b_M_digest_145 (fun h145 => absurd h145 (by first | decide | assumption | omega | simp_all)) (fun h145 => b_M_digest_151 (by first | assumption | decide | (refine vp_in_nI ?_ ?_ <;> omega) | omega | simp_all) ?_)
            rw [f1]
            refine c_M_mix ?_
            have hd2 := dgS_mix (v := (aRs A j).toInt64) hd
            generalize up2 wl 95 19 (31 * wl 95 19 + (aRs A j).toInt64) = wl2 at hd2
            refine b_M_digest_162 ?_
            generalize 31 * fdR (aRs A) (aRp A) j H3 + (aRs A j).toInt64 = H5 at hd2 ih
            obtain ⟨n, hn, en, hge, hle⟩ : ∃ n, n ≤ 40 ∧ (aRs A j).toNatClampNeg = n ∧ aRs A j ≤ nI n ∧ ∀ k, k < n → ¬ aRs A j ≤ nI k := by
              rcases sz_or (hW.1 j hj) (by omega) with ⟨p1, p2, p3⟩ | ⟨n, hn, p1, p2, p3, p4⟩
              · exact ⟨0, by omega, by rw [p1]; rfl, by rw [p1]; decide, fun k hk => absurd hk (Nat.not_lt_zero _)⟩
              · exact ⟨n, hn, by rw [p1]; exact nI_clamp (by omega), by rw [p1]; exact Int32.le_refl _, fun k hk => by rw [p1]; exact nI_ge hk (by omega)⟩
            rw [en] at ih
            have key2 := loop_up (P := fun k => ∀ wl, dgS vi w1 vl wl (fdP (aRp A j) k H5) → wp X (d + 5) k_M_digest 0 0 164 [some (.ref 95), some (.int (nI j)), some (.int (nI k))] [] (mk w1 wl) post) n 0 (Nat.zero_le _) ?_ ?_
            · exact key2 wl2 hd2
            · intro wl hd
              have g2 : ¬ ¬ w1 99 (nI j).toNatClampNeg ≤ nI n := fun q => q (by rw [f1]; exact hge)
              refine b_M_digest_164 (by first | assumption | decide | (refine vp_in_nI ?_ ?_ <;> omega) | omega | simp_all) (fun h164 => b_M_digest_196 ?_) (fun h164 => absurd h164 (by first | decide | assumption | omega | simp_all))
              rw [nI_1]
              exact ih wl _ hd
            · intro k _ hk ih2 wl hd
              have g2 : ¬ w1 99 (nI j).toNatClampNeg ≤ nI k := by rw [f1]; exact hle k hk
              have v1 : vp_in (40 * nI j + nI k) 240 := by rw [ix40]; exact vp_in_nI (by omega) (by omega)
              have f2 : w1 98 (40 * nI j + nI k).toNatClampNeg = aRp A j k := by rw [ix40, nI_clamp (by omega), ew 98 (by decide) (by decide)]; exact q2 k (by omega)
              refine b_M_digest_164 (by first | assumption | decide | (refine vp_in_nI ?_ ?_ <;> omega) | omega | simp_all) (fun h164 => absurd h164 (by first | decide | assumption | omega | simp_all)) (fun h164 => b_M_digest_174 (by first | assumption | decide | (refine vp_in_nI ?_ ?_ <;> omega) | omega | simp_all) ?_)
              rw [f2]
              refine c_M_mix ?_
              refine b_M_digest_190 ?_
              rw [nI_1]
              exact ih2 _ (dgS_mix hd)
        · intro j _ hj ih wl l2 hd
          have g1 : ¬ (3 : Int32) ≤ nI j := nI_ge (a := j) (b := 3) hj (by omega)
          have cj : (nI j).toNatClampNeg = j := nI_clamp (by omega)
          have vj : vp_in (nI j) 3 := vp_in_nI hj (by omega)
          have f1 : w1 97 (nI j).toNatClampNeg = kpT A j := by
            rw [cj, ew 97 (by decide) (by decide)]
            have hk := hA.2.2.2.1 j hj
            unfold kpT
            cases he : aKp A j with
            | none => rw [he] at hk; exact hk
            | some c => rw [he] at hk; exact hk.1
          refine b_M_digest_121 (fun h121 => absurd h121 (by first | decide | assumption | omega | simp_all)) (fun h121 => b_M_digest_126 (by first | assumption | decide | (refine vp_in_nI ?_ ?_ <;> omega) | omega | simp_all) ?_)
          rw [f1]
          refine c_M_mix ?_
          refine b_M_digest_137 ?_
          rw [nI_1]
          exact ih _ _ (dgS_mix hd)
      · intro j _ hj ih wl l2 hd
        have g1 : ¬ w1 96 1 ≤ nI j := by rw [e1]; exact nI_ge hj (by omega)
        refine b_M_digest_79 (fun h79 => absurd h79 (by first | decide | assumption | omega | simp_all)) (fun h79 => b_M_digest_89 ?_)
        have key2 := loop_up (P := fun k => ∀ wl, dgS vi w1 vl wl (fdP (fun w => lwT (aCu A) j (nI w)) k (fdL (aCu A) j H1)) → wp X (d + 5) k_M_digest 0 0 91 [some (.ref 95), some (.int (nI j)), some (.int (nI k))] [] (mk w1 wl) post) 4 0 (Nat.zero_le _) ?_ ?_
        · exact key2 wl hd
        · intro wl hd
          have g2 : ¬ ¬ (4 : Int32) ≤ nI 4 := by decide
          refine b_M_digest_91 (fun h91 => b_M_digest_113 ?_) (fun h91 => absurd h91 (by first | decide | assumption | omega | simp_all))
          rw [nI_1]
          exact ih wl _ hd
        · intro k _ hk ih2 wl hd
          have g2 : ¬ (4 : Int32) ≤ nI k := nI_ge (a := k) (b := 4) hk (by omega)
          refine b_M_digest_91 (fun h91 => absurd h91 (by first | decide | assumption | omega | simp_all)) (fun h91 => b_M_digest_96 ?_)
          refine c_M_lawTells hv hP hj hk ?_
          refine b_M_digest_103 ?_
          refine c_M_mix ?_
          refine b_M_digest_107 ?_
          rw [nI_1]
          exact ih2 _ (dgS_mix hd)
    · intro j _ hj ih wl l2 hd
      have g1 : ¬ w1 96 0 ≤ nI j := by rw [e0]; exact nI_ge hj (by omega)
      refine b_M_digest_37 (fun h37 => absurd h37 (by first | decide | assumption | omega | simp_all)) (fun h37 => b_M_digest_47 ?_)
      have key2 := loop_up (P := fun k => ∀ wl, dgS vi w1 vl wl (fdP (fun w => yrT (aCu A) j (nI w)) k (fdY (aCu A) j H0)) → wp X (d + 5) k_M_digest 0 0 49 [some (.ref 95), some (.int (nI j)), some (.int (nI k))] [] (mk w1 wl) post) 3 0 (Nat.zero_le _) ?_ ?_
      · exact key2 wl hd
      · intro wl hd
        have g2 : ¬ ¬ (3 : Int32) ≤ nI 3 := by decide
        refine b_M_digest_49 (fun h49 => b_M_digest_71 ?_) (fun h49 => absurd h49 (by first | decide | assumption | omega | simp_all))
        rw [nI_1]
        exact ih wl _ hd
      · intro k _ hk ih2 wl hd
        have g2 : ¬ (3 : Int32) ≤ nI k := nI_ge (a := k) (b := 3) hk (by omega)
        refine b_M_digest_49 (fun h49 => absurd h49 (by first | decide | assumption | omega | simp_all)) (fun h49 => b_M_digest_54 ?_)
        refine c_M_yearTells hv hP hj ?_
        refine b_M_digest_61 ?_
        refine c_M_mix ?_
        refine b_M_digest_65 ?_
        rw [nI_1]
        exact ih2 _ (dgS_mix hd)
  · intro j _ hj ih w wl hd
    have g1 : ¬ (9 : Int32) ≤ nI j := nI_ge (a := j) (b := 9) hj (by omega)
    refine b_M_digest_9 (fun h9 => absurd h9 (by first | decide | assumption | omega | simp_all)) (fun h9 => b_M_digest_15 ?_)
    refine c_M_count hW (dgS_A hW hA hd) (fun u ho => ?_)
    refine b_M_digest_21 ?_
    refine c_M_mix ?_
    refine b_M_digest_25 ?_
    rw [nI_1]
    exact ih u _ (dgS_mix (dgS_45 hd ho))
end S67
