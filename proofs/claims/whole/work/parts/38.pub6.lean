/-! plans: the search over a CLOTH -/
theorem okY_cg2 {W W' S S' K K' C C' E E' wan wan' : Nat → Int32} {L most y n : Nat} {wh pl : Bool} {p : Nat → Nat} (hL : L ≤ 8) (hyn : y < n) (hW : ∀ z, z < n → W z = W' z) (hS : ∀ z, z < n → S z = S' z) (hK : ∀ k, k < L → K k = K' k) (hC : ∀ k, k < L → C k = C' k) (hE : ∀ k, k < L → E k = E' k) (hwan : ∀ z, z < n → wan z = wan' z) : okY W S K C E wan L most wh pl p y = okY W' S' K' C' E' wan' L most wh pl p y := by
  have hH : ∀ x, x ≤ y → hpP W S K C E L p x = hpP W' S' K' C' E' L p x := fun x hx => hapF_cg hL hK hC hE x (fun z hz => by rw [hW z (by omega)]) (fun z hz => by rw [hS z (by omega)])
  unfold okY
  rw [hW y hyn, ftP_cg hK hC hE hH]
  unfold ftP
  rw [hwan y hyn]
theorem gdC_cg {W W' S S' K K' C C' E E' wan wan' : Nat → Int32} {L most n code : Nat} {wh pl : Bool} (hL : L ≤ 8) (hW : ∀ z, z < n → W z = W' z) (hS : ∀ z, z < n → S z = S' z) (hK : ∀ k, k < L → K k = K' k) (hC : ∀ k, k < L → C k = C' k) (hE : ∀ k, k < L → E k = E' k) (hwan : ∀ z, z < n → wan z = wan' z) : gdC W S K C E wan L most wh pl n code = gdC W' S' K' C' E' wan' L most wh pl n code :=
  alF_cg n 0 (fun y _ hy => okY_cg2 hL (show y < n by omega) hW hS hK hC hE hwan)
/-- a PLAN (by its code) that is good -/
def gd (c : Cl) (wan : Nat → Int32) (wh pl : Bool) (most code : Nat) : Bool := gdC (cW c) (cS c) (cK c) (cC c) (cEn c) wan (cL c) most wh pl (cN c) code
/-- how many, the first -/
def num (c : Cl) (wan : Nat → Int32) (wh pl : Bool) (most : Nat) : Nat := cn (gd c wan wh pl most) (7 ^ cN c)
def fst (c : Cl) (wan : Nat → Int32) (wh pl : Bool) (most : Nat) : Nat := fsC (gd c wan wh pl most) (7 ^ cN c)
theorem gd_cg {c : Cl} {wan wan' : Nat → Int32} {wh pl : Bool} {most : Nat} (hL : cL c ≤ 8) (h : ∀ y, y < cN c → wan y = wan' y) : gd c wan wh pl most = gd c wan' wh pl most := by
  funext code
  exact gdC_cg hL (fun _ _ => rfl) (fun _ _ => rfl) (fun _ _ => rfl) (fun _ _ => rfl) (fun _ _ => rfl) h
theorem num_le {c : Cl} {wan : Nat → Int32} {wh pl : Bool} {most : Nat} (h : cN c ≤ 5) : num c wan wh pl most ≤ 16807 := Nat.le_trans (cn_le _ _) (pow7_le h)
/-- the fewest STITCHES -/
def fewF (f : Nat → Nat) : Nat → Nat → Option Nat
  | 0, _ => none
  | k + 1, m => if 0 < f m then some m else fewF f k (m + 1)
def plnR (c : Cl) (wan : Nat → Int32) (wh pl : Bool) (most : Nat) : Nat → Int32 := fun y => if y < cN c then nI (dgc (cN c) (fst c wan wh pl most) y) else 0
def oFew (A : aA) (wan : Nat → Int32) (r : Nat) : Int32 × aA := match fewF (num (aCu A) wan true false) (cN (aCu A) + 1) 0 with
  | none => (-9, A)
  | some m => (nI m, tRw A r (nI (cN (aCu A))) (plnR (aCu A) wan true false m))
def wanS (y : Nat) (s : Int32) : Nat → Int32 := va_up (fun _ => 63) y ((1 : Int32) <<< (s &&& 31))
def oLeast (A : aA) (s y r : Int32) : Int32 × aA := if inB s 5 = true ∧ inB y (cN (aCu A)) = true ∧ inB r 6 = true then oFew A (wanS (y.toNatClampNeg) s) (r.toNatClampNeg) else (-1, A)
def wanA (s : Int32) : Nat → Int32 := fun _ => 63 &&& (((1 : Int32) <<< (s &&& 31)) ^^^ -1)
def oAvert (A : aA) (s r : Int32) : Int32 × aA := if inB s 5 = true ∧ inB r 6 = true then (if cN (aCu A) = 0 then (-4, A) else oFew A (wanA s) (r.toNatClampNeg)) else (-1, A)
def frcT (A : aA) (u l : Nat) : aA := tUl A (lN (u / Nat.gcd u l)) (lN (l / Nat.gcd u l))
def oWays (A : aA) (s y n : Int32) : Int32 × aA := if inB s 5 = true ∧ inB y (cN (aCu A)) = true ∧ inB n 6 = true then (1, frcT A (num (aCu A) (wanS (y.toNatClampNeg) s) true false (n.toNatClampNeg)) 1) else (-1, A)
def oOdds (A : aA) (s y : Int32) : Int32 × aA := if inB s 5 = true ∧ inB y (cN (aCu A)) = true then (1, frcT A (num (aCu A) (wanS (y.toNatClampNeg) s) false true 5) (6 ^ pop (ysT (aCu A) 0))) else (-1, A)
def fcT (c : Cl) (code : Nat) : Int32 := frF (fun y => !decide (dgc (cN c) code y = 6)) 0 (cN c)
def wanF (f : Nat → Int32) : Nat → Int32 := fun y => hbF (f y)
def oForged (A : aA) (r : Int32) : Int32 × aA := if inB r 6 then (if cN (aCu A) = 0 then (-4, A) else if hsF A (r.toNatClampNeg) = 0 then (nI (num (aCu A) (wanF (aRp A (r.toNatClampNeg))) false false 1), tAk A (if num (aCu A) (wanF (aRp A (r.toNatClampNeg))) false false 1 = 0 then -9 else fcT (aCu A) (fst (aCu A) (wanF (aRp A (r.toNatClampNeg))) false false 1))) else (-3, tFd A (hsF A (r.toNatClampNeg)))) else (-1, A)
section S38
variable {X : aX} {d : Nat} {vi : Nat → Nat → Int32} {vl : Nat → Nat → Int64} {post : aO} {A : aA}
theorem a_seek {c : Cl} {wan : Nat → Int32} {wh pl : Bool} {most : Nat} (hw : wfV c) (hV : ClV c 3 vi) (h4 : vi 26 4 = bI wh) (h5 : vi 26 5 = bI pl) (hwan : ∀ y, y < cN c → vi 39 y = wan y) (hm : most < 1000) (hQ : ∀ w, (∀ j, (j < 26 ∨ 40 < j ∨ j = 39) → w j = vi j) → w 26 4 = vi 26 4 → w 26 5 = vi 26 5 → (0 < num c wan wh pl most → ∀ y, y < cN c → w 40 y = nI (dgc (cN c) (fst c wan wh pl most) y)) → post (some (.int (nI (num c wan wh pl most)))) (mk w vl)) : CallOk X (d + 11) 0 0 k_P_seek [.ref 26, .ref 3, .int (nI most)] (mk vi vl) post := by
  refine CallOk.intro (by decide +kernel) rfl (Nat.le_of_ble_eq_true rfl) ?_
  have hn5 := hw.1
  have hl8 := hw.2.1
  refine b_P_seek_0 ?_
  refine c_C_take isCl_27 isCl_3 (by decide) (fun w1 ht => ?_)
  have hV1 := V_take hw hV ht
  refine b_P_seek_8 (fun w8 hw8 => b_P_seek_13 (fun w13 hw13 => b_P_seek_18 ?_))
  have e26 : w1 26 = vi 26 := ht.1 26 (by omega)
  have e39 : w1 39 = vi 39 := ht.1 39 (by omega)
  have o : ∀ j, j ≠ 26 → w13 j = w1 j := fun j hj => by rw [hw13, up2_n hj, hw8, up2_n hj]
  have o6 : w13 26 6 = nI 0 := by rw [hw13, up2_s, vau_s]; rfl
  have o3 : w13 26 3 = nI most := by rw [hw13, up2_s, vau_n (by decide), hw8, up2_s, vau_s]
  have ok : ∀ k, k ≠ 6 → k ≠ 3 → w13 26 k = vi 26 k := fun k a b => by rw [hw13, up2_s, vau_n a, hw8, up2_s, vau_n b, e26]
  have eg : gdC (cW c) (cS c) (w13 30) (w13 31) (w13 32) (w13 39) (cL c) most wh pl (cN c) = gd c wan wh pl most := by
    funext code
    refine gdC_cg hl8 (fun _ _ => rfl) (fun _ _ => rfl) (fun k hk => ?_) (fun k hk => ?_) (fun k hk => ?_) (fun y hy => ?_)
    · rw [o 30 (by decide)]; exact (hV1.2.2.2 k hk).1
    · rw [o 31 (by decide)]; exact (hV1.2.2.2 k hk).2.1
    · rw [o 32 (by decide)]; exact (hV1.2.2.2 k hk).2.2
    · rw [o 39 (by decide), e39]; exact hwan y hy
  have hK : ∀ k, k < cL c → vp_in (w13 30 k) 6 := fun k hk => by rw [o 30 (by decide)]; exact V_kd hw hV1 k hk
  have hB : BaI (w13 30) (w13 31) (w13 32) (w13 39) (cN c) (cL c) most wh pl w13 := ⟨by rw [o 27 (by decide)]; exact hV1.1, by rw [o 27 (by decide)]; exact hV1.2.1, o3, by rw [ok 4 (by decide) (by decide)]; exact h4, by rw [ok 5 (by decide) (by decide)]; exact h5, rfl, rfl, rfl, rfl⟩
  have hT : TrI (cW c) (cS c) (w13 30) (w13 31) (w13 32) (cN c) (cL c) w13 (fun _ => 0) 0 := ⟨fun z hz => absurd hz (Nat.not_lt_zero _), fun z _ hz => by rw [o 28 (by decide), o 29 (by decide)]; exact hV1.2.2.1 z hz⟩
  have hgo := c_P_goOn (X := X) (vl := vl) (W := cW c) (S := cS c) (K := w13 30) (C := w13 31) (E := w13 32) (wan := w13 39) (n := cN c) (L := cL c) (most := most) (wh := wh) (pl := pl) hn5 hl8 hm hK (cN c) (d + 5 - cN c) 0 0 (fun _ => 0) w13
  rw [show d + 5 - cN c + cN c + 5 = d + 10 by omega] at hgo
  refine hgo _ (Nat.zero_add _) rfl (fun z hz => absurd hz (Nat.not_lt_zero _)) hB hT (fun z hz => absurd hz (Nat.not_lt_zero _)) ?_ (fun u hu _ hS => ?_)
  · show SkI _ _ _ (0 * 7 ^ cN c)
    rw [Nat.zero_mul]
    exact ⟨o6, fun h => absurd h (Nat.lt_irrefl _)⟩
  · have hS : SkI (gdC (cW c) (cS c) (w13 30) (w13 31) (w13 32) (w13 39) (cL c) most wh pl (cN c)) (cN c) u ((0 + 1) * 7 ^ cN c) := hS
    rw [Nat.zero_add, Nat.one_mul, eg] at hS
    refine b_P_seek_24 ?_
    rw [hS.1]
    refine hQ u (fun j hj => ?_) ?_ ?_ hS.2
    · rw [hu.1 j (by omega) (by omega) (by omega) (by omega) (by omega) (by omega) (by omega), o j (by omega), ht.1 j (by omega)]
    · rw [hu.2 4 (by decide), ok 4 (by decide) (by decide)]
    · rw [hu.2 5 (by decide), ok 5 (by decide) (by decide)]
end S38
section S38b
variable {X : aX} {d : Nat} {vi : Nat → Nat → Int32} {vl : Nat → Nat → Int64} {post : aO} {A : aA}
theorem AbC_pl (hL : cL (aCu A) ≤ 8) {w : Nat → Nat → Int32} (h : AbC A vi vl) (hw : ∀ j, (j < 26 ∨ 40 < j) → w j = vi j) : AbC A w vl := AbC_scr hL h (fun j hj => hw j (by omega))
theorem c_S_fewestInto {wan : Nat → Int32} {r : Nat} (hW : wfA A) (hA : AbC A vi vl) (h4 : vi 26 4 = bI true) (h5 : vi 26 5 = bI false) (hwan : ∀ y, y < cN (aCu A) → vi 39 y = wan y) (hr : r < 6) (hQ : PC vi vl post (oFew A wan r)) : CallOk X (d + 12) 0 0 k_S_fewestInto [.ref 0, .int (nI r)] (mk vi vl) post := by
  refine CallOk.intro (by decide +kernel) rfl (Nat.le_of_ble_eq_true rfl) ?_
  unfold oFew at hQ
  have h5' := hW.N5
  have hv := hW.2.2.1.v
  have cr : (nI r).toNatClampNeg = r := nI_clamp (by omega)
  have hn : vi 3 0 = nI (cN (aCu A)) := hA.2.1.1.1
  have hR : isRw (42 + 2 * r) := rows_i hr
  have hrl : rl (42 + 2 * r) = 40 := by unfold rl; rw [if_pos (by omega)]
  refine b_S_fewestInto_0 ?_
  have key := loop_up (P := fun m => ∀ w, (∀ j, (j < 26 ∨ 40 < j ∨ j = 39) → w j = vi j) → w 26 4 = vi 26 4 → w 26 5 = vi 26 5 → fewF (num (aCu A) wan true false) (cN (aCu A) + 1) 0 = fewF (num (aCu A) wan true false) (cN (aCu A) + 1 - m) m → wp X (d + 12) k_S_fewestInto 0 0 2 [some (.ref 0), some (.int (nI r)), some (.int (nI m))] [] (mk w vl) post) (cN (aCu A) + 1) 0 (Nat.zero_le _) ?_ ?_
  · exact key vi (fun _ _ => rfl) rfl rfl rfl
  · intro w hw _ _ he
    rw [Nat.sub_self] at he
    rw [he] at hQ
    have g1 : w 3 0 < nI (cN (aCu A) + 1) := by rw [hw 3 (by omega), hn]; exact nI_lt (by omega) (by omega)
    refine b_S_fewestInto_2 (fun h2 => b_S_fewestInto_81 ?_) (fun h2 => absurd h2 (by first | decide | assumption | omega | simp_all))
    exact hQ _ _ (AbC_pl hW.L8 hA (fun q hq => hw q (by omega))) (smM_of fun q hq => hw q (by omega))
  · intro m _ hm ih w hw w4 w5 he
    have g1 : ¬ w 3 0 < nI m := by rw [hw 3 (by omega), hn]; exact nI_nlt (by omega) (by omega)
    rw [show cN (aCu A) + 1 - m = (cN (aCu A) + 1 - (m + 1)) + 1 by omega] at he
    simp only [fewF] at he
    refine b_S_fewestInto_2 (fun h2 => absurd h2 (by first | decide | assumption | omega | simp_all)) (fun h2 => b_S_fewestInto_13 ?_)
    refine a_seek (c := aCu A) (wan := wan) (wh := true) (pl := false) hv (ClV_fr hA.2.1.1.v (fun q _ _ => hw q (by omega))) (by rw [w4]; exact h4) (by rw [w5]; exact h5) (fun y hy => by rw [hw 39 (by omega)]; exact hwan y hy) (by omega) (fun u hu u4 u5 hf => ?_)
    have o2 : ∀ j, (j < 26 ∨ 40 < j ∨ j = 39) → u j = vi j := fun j hj => by rw [hu j hj, hw j hj]
    have hle := num_le (c := aCu A) (wan := wan) (wh := true) (pl := false) (most := m) h5'
    by_cases h0 : 0 < num (aCu A) wan true false m
    · rw [if_pos h0] at he
      simp only [fewF, he] at hQ
      have g2 : ¬ nI (num (aCu A) wan true false m) ≤ 0 := nI_nle h0 (by omega)
      have un : u 3 0 = nI (cN (aCu A)) := by rw [o2 3 (by omega)]; exact hn
      refine b_S_fewestInto_25 (fun h25 => absurd h25 (by first | decide | assumption | omega | simp_all)) (fun h25 => b_S_fewestInto_28 (by first | assumption | decide | (refine vp_in_nI ?_ ?_ <;> omega) | omega | simp_all) ?_)
      rw [un, cr]
      refine c_R_begin hR (by rw [hrl]; omega) ?_
      have b1 : bgM u (42 + 2 * r) (cN (aCu A)) 0 (42 + 2 * r) 1 = nI (cN (aCu A)) := by unfold bgM; rw [up1_n (by omega), up2_s, vau_s]
      have b2 : ∀ k, k < 40 → bgM u (42 + 2 * r) (cN (aCu A)) 0 (42 + 2 * r + 1) k = 0 := fun k hk => bgM_1 (by rw [hrl]; exact hk)
      have bo : ∀ j, j ≠ 42 + 2 * r → j ≠ 42 + 2 * r + 1 → bgM u (42 + 2 * r) (cN (aCu A)) 0 j = u j := fun j a b => by unfold bgM; rw [up1_n b, up2_n a]
      generalize bgM u (42 + 2 * r) (cN (aCu A)) 0 = v at b1 b2 bo
      have v3 : v 3 0 = nI (cN (aCu A)) := by rw [bo 3 (by omega) (by omega)]; exact un
      have c3 : (v 3 0).toNatClampNeg = cN (aCu A) := by rw [v3]; exact nI_clamp (by omega)
      have g3 : ¬ v 3 0 < 0 := by rw [v3]; exact nI_pos (by omega)
      have g4 : 0 + (v 3 0).toNatClampNeg ≤ 5 := by rw [c3]; omega
      have g5 : 0 + (v 3 0).toNatClampNeg ≤ rl (42 + 2 * (nI r).toNatClampNeg) := by rw [c3, cr, hrl]; omega
      refine b_S_fewestInto_45 (by first | assumption | decide | (refine vp_in_nI ?_ ?_ <;> omega) | omega | simp_all) (by first | assumption | decide | (refine vp_in_nI ?_ ?_ <;> omega) | omega | simp_all) (by first | assumption | decide | (refine vp_in_nI ?_ ?_ <;> omega) | omega | simp_all) (by first | assumption | decide | (refine vp_in_nI ?_ ?_ <;> omega) | omega | simp_all) (fun w45 hw45 => b_S_fewestInto_73 ?_)
      rw [cr, c3] at hw45
      have of : ∀ j, j ≠ 42 + 2 * r → j ≠ 43 + 2 * r → w45 j = u j := fun j a b => by rw [hw45, up1_n (by omega), bo j a (by omega)]
      have hA2 : AbC A u vl := AbC_pl hW.L8 hA (fun q hq => o2 q (by omega))
      refine hQ _ _ (AbC_row hW.L8 hA2 hr ?_ (fun k hk => ?_) of) (smM_of fun q hq => by rw [of q (by omega) (by omega)]; exact o2 q (by omega))
      · rw [hw45, up1_n (by omega)]; exact b1
      · rw [hw45, show 43 + 2 * r = 42 + 2 * r + 1 by omega, up1_s]
        show va_cpy (v 40) (v (42 + 2 * r + 1)) 0 0 (cN (aCu A)) k = _
        unfold va_cpy plnR
        by_cases hkn : k < cN (aCu A)
        · rw [if_pos (by omega), if_pos hkn, bo 40 (by omega) (by omega), show 0 + (k - 0) = k by omega]
          exact hf h0 k hkn
        · rw [if_neg (by omega), if_neg hkn]
          exact b2 k hk
    · rw [if_neg h0] at he
      have h0' : num (aCu A) wan true false m = 0 := by omega
      rw [h0']
      refine b_S_fewestInto_25 (fun h25 => b_S_fewestInto_75 ?_) (fun h25 => absurd h25 (by first | decide | assumption | omega | simp_all))
      rw [nI_1]
      exact ih u o2 (by rw [u4, w4]) (by rw [u5, w5]) he
end S38b
section S38c
variable {X : aX} {d : Nat} {vi : Nat → Nat → Int32} {vl : Nat → Nat → Int64} {post : aO} {A : aA}
theorem scr_bg {x y : Bool} {j : Nat} (h26 : j ≠ 26) (h39 : j ≠ 39) : up1 (up2 (up2 vi 26 4 (bI x)) 26 5 (bI y)) 39 (flF (vi 39) 63 5) j = vi j := by rw [up1_n h39, up2_n h26, up2_n h26]
theorem bg_4 {x y : Bool} : up1 (up2 (up2 vi 26 4 (bI x)) 26 5 (bI y)) 39 (flF (vi 39) 63 5) 26 4 = bI x := by rw [up1_n (by decide), up2_s, vau_n (by decide), up2_s, vau_s]
theorem bg_5 {x y : Bool} : up1 (up2 (up2 vi 26 4 (bI x)) 26 5 (bI y)) 39 (flF (vi 39) 63 5) 26 5 = bI y := by rw [up1_n (by decide), up2_s, vau_s]
theorem bg_39 {x y : Bool} {z : Nat} (hz : z < 5) : up1 (up2 (up2 vi 26 4 (bI x)) 26 5 (bI y)) 39 (flF (vi 39) 63 5) 39 z = 63 := by
  rw [up1_s]; unfold flF; rw [if_pos hz]
theorem PC_mono {w : Nat → Nat → Int32} {o : Int32 × aA} (h : PC vi vl post o) (hw : ∀ j, 95 ≤ j → w j = vi j) : PC w vl post o := fun u ul h1 h2 => h u ul h1 ⟨fun j hj => by rw [h2.1 j hj, hw j hj], h2.2⟩
theorem s_least {s y r : Int32} (hW : wfA A) (hA : AbC A vi vl) (hQ : PC vi vl post (oLeast A s y r)) : CallOk X (d + 13) 0 0 k_S_least [.ref 0, .int s, .int y, .int r] (mk vi vl) post := by
  refine CallOk.intro (by decide +kernel) rfl (Nat.le_of_ble_eq_true rfl) ?_
  unfold oLeast at hQ
  have h5' := hW.N5
  refine b_S_least_0 ?_
  refine c_S_isScene (fun hs => ?_) (fun hs => ?_)
  · refine b_S_least_4 (fun h4 => absurd h4 (by first | decide | assumption | omega | simp_all)) (fun h4 => b_S_least_7 ?_)
    refine c_S_isYear hA.2.1.1.1 hW.N5 (fun hy => ?_) (fun hy => ?_)
    · obtain ⟨j, hj, rfl⟩ := vp_in_of hy (by omega)
      have cj : (nI j).toNatClampNeg = j := nI_clamp (by omega)
      refine b_S_least_12 (fun h12 => absurd h12 (by first | decide | assumption | omega | simp_all)) (fun h12 => b_S_least_15 ?_)
      refine c_S_isRow (fun hr => ?_) (fun hr => ?_)
      · rw [inB_t hs, inB_t hy, inB_t hr, if_pos ⟨rfl, rfl, rfl⟩, cj] at hQ
        obtain ⟨m, hm, rfl⟩ := vp_in_of hr (by decide)
        rw [nI_clamp (show m < 2 ^ 31 by omega)] at hQ
        refine b_S_least_19 (fun h19 => b_S_least_24 ?_) (fun h19 => absurd h19 (by first | decide | assumption | omega | simp_all))
        refine c_P_begin (x := true) (y := false) ?_
        refine b_S_least_33 ?_
        refine c_P_want (by omega) ?_
        refine b_S_least_44 ?_
        refine c_S_fewestInto (A := A) (wan := wanS j s) hW (AbC_pl hW.L8 hA (fun q hq => by rw [up2_n (by omega), scr_bg (by omega) (by omega)])) (by rw [up2_n (by decide)]; exact bg_4) (by rw [up2_n (by decide)]; exact bg_5) (fun z hz => ?_) hm ?_
        · rw [up2_s]; unfold wanS
          by_cases hzj : z = j
          · subst hzj; rw [vau_s, vau_s]
          · rw [vau_n hzj, vau_n hzj]; exact bg_39 (by omega)
        · intro w wl h1 h2
          refine b_S_least_49 ?_
          exact PC_mono hQ (fun q hq => by rw [up2_n (by omega), scr_bg (by omega) (by omega)]) w wl h1 h2
      · rw [inB_f hr, if_neg (fun q => by cases q.2.2)] at hQ
        refine b_S_least_19 (fun h19 => absurd h19 (by first | decide | assumption | omega | simp_all)) (fun h19 => b_S_least_22 ?_)
        exact hQ _ _ hA smM_rf
    · rw [inB_f hy, if_neg (fun q => by cases q.2.1)] at hQ
      refine b_S_least_12 (fun h12 => b_S_least_22 ?_) (fun h12 => absurd h12 (by first | decide | assumption | omega | simp_all))
      exact hQ _ _ hA smM_rf
  · rw [inB_f hs, if_neg (fun q => by cases q.1)] at hQ
    refine b_S_least_4 (fun h4 => b_S_least_22 ?_) (fun h4 => absurd h4 (by first | decide | assumption | omega | simp_all))
    exact hQ _ _ hA smM_rf
theorem s_avert {s r : Int32} (hW : wfA A) (hA : AbC A vi vl) (hQ : PC vi vl post (oAvert A s r)) : CallOk X (d + 13) 0 0 k_S_avert [.ref 0, .int s, .int r] (mk vi vl) post := by
  refine CallOk.intro (by decide +kernel) rfl (Nat.le_of_ble_eq_true rfl) ?_
  unfold oAvert at hQ
  have h5' := hW.N5
  have hn : vi 3 0 = nI (cN (aCu A)) := hA.2.1.1.1
  refine b_S_avert_0 ?_
  refine c_S_isScene (fun hs => ?_) (fun hs => ?_)
  · refine b_S_avert_4 (fun h4 => absurd h4 (by first | decide | assumption | omega | simp_all)) (fun h4 => b_S_avert_7 ?_)
    refine c_S_isRow (fun hr => ?_) (fun hr => ?_)
    · rw [inB_t hs, inB_t hr, if_pos ⟨rfl, rfl⟩] at hQ
      obtain ⟨m, hm, rfl⟩ := vp_in_of hr (by decide)
      rw [nI_clamp (show m < 2 ^ 31 by omega)] at hQ
      have q0 : (nI (cN (aCu A)) = 0) ↔ cN (aCu A) = 0 := nI_eq (b := 0) (by omega) (by omega)
      by_cases h0 : cN (aCu A) = 0
      · have g : vi 3 0 = 0 := by rw [hn]; exact q0.mpr h0
        rw [if_pos h0] at hQ
        refine b_S_avert_11 (fun h11 => b_S_avert_16 (fun h16 => absurd h16 (by first | decide | assumption | omega | simp_all)) (fun h16 => b_S_avert_26 ?_)) (fun h11 => absurd h11 (by first | decide | assumption | omega | simp_all))
        exact hQ _ _ hA smM_rf
      · have g : ¬ vi 3 0 = 0 := by rw [hn]; exact fun q => h0 (q0.mp q)
        rw [if_neg h0] at hQ
        refine b_S_avert_11 (fun h11 => b_S_avert_16 (fun h16 => b_S_avert_29 ?_) (fun h16 => absurd h16 (by first | decide | assumption | omega | simp_all))) (fun h11 => absurd h11 (by first | decide | assumption | omega | simp_all))
        refine c_P_begin (x := true) (y := false) ?_
        refine b_S_avert_38 ?_
        have key := loop_up (P := fun y => ∀ w, (∀ j, j ≠ 26 → j ≠ 39 → w j = vi j) → w 26 4 = bI true → w 26 5 = bI false → (∀ z, z < y → w 39 z = wanA s z) → wp X (d + 13) k_S_avert 0 0 40 [some (.ref 0), some (.int s), some (.int (nI m)), some (.int (nI y))] [] (mk w vl) post) (cN (aCu A)) 0 (Nat.zero_le _) ?_ ?_
        · exact key _ (fun j a b => scr_bg a b) bg_4 bg_5 (fun z hz => absurd hz (Nat.not_lt_zero _))
        · intro w hw w4 w5 h39
          have g1 : w 3 0 ≤ nI (cN (aCu A)) := by rw [hw 3 (by omega) (by omega), hn]; exact Int32.le_refl _
          refine b_S_avert_40 (fun h40 => b_S_avert_73 ?_) (fun h40 => absurd h40 (by first | decide | assumption | omega | simp_all))
          refine c_S_fewestInto (A := A) (wan := wanA s) hW (AbC_pl hW.L8 hA (fun q hq => hw q (by omega) (by omega))) w4 w5 h39 hm ?_
          intro u ul h1 h2
          refine b_S_avert_78 ?_
          exact PC_mono hQ (fun q hq => hw q (by omega) (by omega)) u ul h1 h2
        · intro y _ hy ih w hw w4 w5 h39
          have g1 : ¬ w 3 0 ≤ nI y := by rw [hw 3 (by omega) (by omega), hn]; exact nI_ge hy (by omega)
          refine b_S_avert_40 (fun h40 => absurd h40 (by first | decide | assumption | omega | simp_all)) (fun h40 => b_S_avert_51 ?_)
          refine c_P_want (by omega) ?_
          refine b_S_avert_67 ?_
          rw [nI_1]
          refine ih _ (fun j a b => by rw [up2_n b]; exact hw j a b) (by rw [up2_n (by decide)]; exact w4) (by rw [up2_n (by decide)]; exact w5) (fun z hz => ?_)
          rw [up2_s]
          by_cases hzy : z = y
          · subst hzy; rw [vau_s]; rfl
          · rw [vau_n hzy]; exact h39 z (by omega)
    · rw [inB_f hr, if_neg (fun q => by cases q.2)] at hQ
      refine b_S_avert_11 (fun h11 => absurd h11 (by first | decide | assumption | omega | simp_all)) (fun h11 => b_S_avert_14 ?_)
      exact hQ _ _ hA smM_rf
  · rw [inB_f hs, if_neg (fun q => by cases q.1)] at hQ
    refine b_S_avert_4 (fun h4 => b_S_avert_14 ?_) (fun h4 => absurd h4 (by first | decide | assumption | omega | simp_all))
    exact hQ _ _ hA smM_rf
end S38c
