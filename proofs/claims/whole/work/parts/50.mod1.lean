/-! THE REFERENCE: its cells as the abstract state -/
/-- the CLOTH c at the place o of w, but for its STITCHES -/
def MV (c : Cl) (o : Nat) (g : Nat → Int32) : Prop := g o = nI (cN c) ∧ g (o + 1) = nI (cL c) ∧ (∀ y, y < cN c → g (o + 2 + y) = cW c y ∧ g (o + 7 + y) = cS c y) ∧ ∀ k, k < cL c → g (o + 12 + k) = cK c k ∧ g (o + 20 + k) = cC c k ∧ g (o + 28 + k) = cEn c k
def MF (c : Cl) (o : Nat) (g : Nat → Int32) : Prop := MV c o g ∧ ∀ i, i < cT c → MV (unC c i) (o + 36 * (i + 1)) g
def RwM (A : aA) (vi : Nat → Nat → Int32) : Prop := ∀ r, r < 6 → vi 99 r = aRs A r ∧ ∀ k, k < 40 → vi 98 (40 * r + k) = aRp A r k
def TxM (A : aA) (vi : Nat → Nat → Int32) : Prop := ∀ t, t < 4 → vi 101 t = aTs A t ∧ ∀ k, k < 60 → vi 100 (60 * t + k) = aTp A t k
def CuM (A : aA) (vi : Nat → Nat → Int32) : Prop := MF (aCu A) 0 (vi 96) ∧ vi 95 1 = nI (cT (aCu A))
def KpM (A : aA) (vi : Nat → Nat → Int32) : Prop := ∀ k, k < 3 → match aKp A k with | none => vi 97 k = -1 | some c => vi 97 k = nI (cT c) ∧ MF c (1476 * (k + 1)) (vi 96)
def FdM (A : aA) (vi : Nat → Nat → Int32) : Prop := vi 95 8 = aFd A ∧ ∀ f, f < 6 → vi 103 f = aFs A f
def TlM (A : aA) (vi : Nat → Nat → Int32) (vl : Nat → Nat → Int64) : Prop := vi 95 10 = aAk A ∧ vl 95 11 = aUp A ∧ vl 95 12 = aLo A
def AbM (A : aA) (vi : Nat → Nat → Int32) (vl : Nat → Nat → Int64) : Prop := RwM A vi ∧ TxM A vi ∧ CuM A vi ∧ KpM A vi ∧ FdM A vi ∧ TlM A vi vl ∧ vi 95 16 = -9
/-- scratch of the reference's -/
def scM (vi w : Nat → Nat → Int32) : Prop := (∀ j, (j < 95 ∨ (97 ≤ j ∧ j ≤ 101) ∨ j = 103) → w j = vi j) ∧ (∀ k, k ≠ 13 → k ≠ 18 → w 95 k = vi 95 k) ∧ ∀ k, k < 5904 → w 96 k = vi 96 k
theorem scM_rf {vi : Nat → Nat → Int32} : scM vi vi := ⟨fun _ _ => rfl, fun _ _ _ => rfl, fun _ _ => rfl⟩
theorem scM_tr {u v w : Nat → Nat → Int32} (h1 : scM u v) (h2 : scM v w) : scM u w := ⟨fun j hj => (h2.1 j hj).trans (h1.1 j hj), fun k a b => (h2.2.1 k a b).trans (h1.2.1 k a b), fun k hk => (h2.2.2 k hk).trans (h1.2.2 k hk)⟩
/-- what a call of the reference's comes to -/
def PM (vi : Nat → Nat → Int32) (vl : Nat → Nat → Int64) (post : aO) (o : Int32 × aA) : Prop := ∀ w wl, AbM o.2 w wl → smC vi w vl wl → post (some (.int o.1)) (mk w wl)
section F50
variable {A : aA} {vi w : Nat → Nat → Int32} {vl wl : Nat → Nat → Int64} {c : Cl} {o : Nat} {f g : Nat → Int32}
theorem MV_cp {a : Nat} (hw : wfV c) (h : MV c o g) (hf : ∀ k, k < 36 → f (a + k) = g (o + k)) : MV c a f := by
  obtain ⟨h1, h2, h3, h4⟩ := h
  have hn := hw.1
  have hl := hw.2.1
  refine ⟨(hf 0 (by omega)).trans h1, by rw [hf 1 (by omega)]; exact h2, fun y hy => ?_, fun k hk => ?_⟩
  · rw [show a + 2 + y = a + (2 + y) by omega, show a + 7 + y = a + (7 + y) by omega, hf _ (by omega), hf _ (by omega), show o + (2 + y) = o + 2 + y by omega, show o + (7 + y) = o + 7 + y by omega]; exact h3 y hy
  · rw [show a + 12 + k = a + (12 + k) by omega, show a + 20 + k = a + (20 + k) by omega, show a + 28 + k = a + (28 + k) by omega, hf _ (by omega), hf _ (by omega), hf _ (by omega), show o + (12 + k) = o + 12 + k by omega, show o + (20 + k) = o + 20 + k by omega, show o + (28 + k) = o + 28 + k by omega]; exact h4 k hk
theorem MV_fr (hw : wfV c) (h : MV c o g) (hf : ∀ k, o ≤ k → k < o + 36 → f k = g k) : MV c o f := MV_cp hw h (fun k hk => hf _ (by omega) (by omega))
theorem unC_v {i : Nat} (hw : wfV c) : wfV (unC c i) := hw
theorem MF_cp {a : Nat} (hw : wfC c) (h : MF c o g) (hf : ∀ k, k < 1476 → f (a + k) = g (o + k)) : MF c a f := by
  have ht := hw.2.2.1
  refine ⟨MV_cp hw.v h.1 (fun k hk => hf k (by omega)), fun i hi => MV_cp (unC_v hw.v) (h.2 i hi) (fun k hk => ?_)⟩
  rw [show a + 36 * (i + 1) + k = a + (36 * (i + 1) + k) by omega, hf _ (by omega), show o + (36 * (i + 1) + k) = o + 36 * (i + 1) + k by omega]
theorem MF_fr (hw : wfC c) (h : MF c o g) (hf : ∀ k, o ≤ k → k < o + 1476 → f k = g k) : MF c o f := MF_cp hw h (fun k hk => hf _ (by omega) (by omega))
theorem KpM_fr {B : aA} (hW : wfA A) (h : KpM A vi) (hB : aKp B = aKp A) (h97 : w 97 = vi 97) (h96 : ∀ k, 1476 ≤ k → k < 5904 → w 96 k = vi 96 k) : KpM B w := by
  intro k hk
  have := h k hk
  rw [hB]
  cases he : aKp A k with
  | none => rw [he] at this; show w 97 k = _; rw [h97]; exact this
  | some c =>
    rw [he] at this
    exact ⟨by rw [h97]; exact this.1, MF_fr (hW.2.2.2.1 k c hk he).1 this.2 (fun j a b => h96 j (by omega) (by omega))⟩
theorem AbM_sc (hW : wfA A) (h : AbM A vi vl) (hs : scM vi w) (h11 : wl 95 11 = vl 95 11) (h12 : wl 95 12 = vl 95 12) : AbM A w wl := by
  obtain ⟨a1, a2, a3, a4, a5, a6, a7⟩ := h
  obtain ⟨s1, s2, s3⟩ := hs
  refine ⟨fun r hr => ?_, fun t ht => ?_, ⟨MF_fr hW.2.2.1 a3.1 (fun k _ hk => s3 k (by omega)), ?_⟩, KpM_fr hW a4 rfl (s1 97 (by omega)) (fun k _ hk => s3 k hk), ⟨?_, fun f hf => ?_⟩, ⟨?_, ?_, ?_⟩, ?_⟩
  · rw [s1 99 (by omega), s1 98 (by omega)]; exact a1 r hr
  · rw [s1 101 (by omega), s1 100 (by omega)]; exact a2 t ht
  · rw [s2 1 (by decide) (by decide)]; exact a3.2
  · rw [s2 8 (by decide) (by decide)]; exact a5.1
  · rw [s1 103 (by omega)]; exact a5.2 f hf
  · rw [s2 10 (by decide) (by decide)]; exact a6.1
  · rw [h11]; exact a6.2.1
  · rw [h12]; exact a6.2.2
  · rw [s2 16 (by decide) (by decide)]; exact a7
theorem smC_sc (hs : scM vi w) : smC vi w vl vl := ⟨fun j hj => hs.1 j (by omega), fun _ _ => rfl⟩
theorem smC_rf : smC vi vi vl vl := ⟨fun _ _ => rfl, fun _ _ => rfl⟩
theorem smC_of (h : ∀ j, j < 95 → w j = vi j) : smC vi w vl vl := ⟨h, fun _ _ => rfl⟩
/-- found -/
def fdM (vi : Nat → Nat → Int32) (f : Nat) : Nat → Nat → Int32 := up2 (up2 vi 95 8 (nI f)) 103 f (vi 103 f + 1)
theorem AbM_fd (hW : wfA A) (h : AbM A vi vl) {f : Nat} (hf : f < 6) : AbM (tFd A f) (fdM vi f) vl := by
  obtain ⟨a1, a2, a3, a4, a5, a6, a7⟩ := h
  have o : ∀ j, j ≠ 95 → j ≠ 103 → fdM vi f j = vi j := fun j a b => by unfold fdM; rw [up2_n b, up2_n a]
  have o5 : ∀ k, k ≠ 8 → fdM vi f 95 k = vi 95 k := fun k hk => by unfold fdM; rw [up2_n (by decide), up2_s, vau_n hk]
  refine ⟨fun r hr => ?_, fun t ht => ?_, ⟨?_, ?_⟩, KpM_fr hW a4 rfl (o 97 (by decide) (by decide)) (fun k _ hk => by rw [o 96 (by decide) (by decide)]), ⟨?_, fun g hg => ?_⟩, ⟨?_, a6.2⟩, ?_⟩
  · rw [o 99 (by decide) (by decide), o 98 (by decide) (by decide)]; exact a1 r hr
  · rw [o 101 (by decide) (by decide), o 100 (by decide) (by decide)]; exact a2 t ht
  · rw [o 96 (by decide) (by decide)]; exact a3.1
  · rw [o5 1 (by decide)]; exact a3.2
  · unfold fdM; rw [up2_n (by decide), up2_s, vau_s]; rfl
  · unfold fdM; rw [up2_s, up2_n (by decide)]
    show _ = va_up (aFs A) f (aFs A f + 1) g
    by_cases hgf : g = f
    · subst hgf; rw [vau_s, vau_s, a5.2 g hg]
    · rw [vau_n hgf, vau_n hgf, a5.2 g hg]
  · rw [o5 10 (by decide)]; exact a6.1
  · rw [o5 16 (by decide)]; exact a7
theorem AbM_ak (hW : wfA A) (h : AbM A vi vl) (v : Int32) : AbM (tAk A v) (up2 vi 95 10 v) vl := by
  obtain ⟨a1, a2, a3, a4, a5, a6, a7⟩ := h
  have o : ∀ j, j ≠ 95 → up2 vi 95 10 v j = vi j := fun j a => up2_n a
  have o5 : ∀ k, k ≠ 10 → up2 vi 95 10 v 95 k = vi 95 k := fun k hk => by rw [up2_s, vau_n hk]
  refine ⟨fun r hr => ?_, fun t ht => ?_, ⟨?_, ?_⟩, KpM_fr hW a4 rfl (o 97 (by decide)) (fun k _ hk => by rw [o 96 (by decide)]), ⟨?_, fun g hg => ?_⟩, ⟨?_, a6.2⟩, ?_⟩
  · rw [o 99 (by decide), o 98 (by decide)]; exact a1 r hr
  · rw [o 101 (by decide), o 100 (by decide)]; exact a2 t ht
  · rw [o 96 (by decide)]; exact a3.1
  · rw [o5 1 (by decide)]; exact a3.2
  · rw [o5 8 (by decide)]; exact a5.1
  · rw [o 103 (by decide)]; exact a5.2 g hg
  · rw [up2_s, vau_s]; rfl
  · rw [o5 16 (by decide)]; exact a7
theorem AbM_row {r : Nat} {s : Int32} {p : Nat → Int32} (hW : wfA A) (h : AbM A vi vl) (hs : w 99 = va_up (vi 99) r s) (hp : ∀ k, k < 40 → w 98 (40 * r + k) = p k) (ho : ∀ q, q < 6 → q ≠ r → ∀ k, k < 40 → w 98 (40 * q + k) = vi 98 (40 * q + k)) (hw : ∀ j, j ≠ 98 → j ≠ 99 → j ≠ 102 → w j = vi j) : AbM (tRw A r s p) w vl := by
  obtain ⟨a1, a2, a3, a4, a5, a6, a7⟩ := h
  refine ⟨fun q hq => ?_, fun t ht => ?_, ⟨?_, ?_⟩, KpM_fr hW a4 rfl (hw 97 (by decide) (by decide) (by decide)) (fun k _ hk => by rw [hw 96 (by decide) (by decide) (by decide)]), ⟨?_, fun g hg => ?_⟩, ⟨?_, a6.2⟩, ?_⟩
  · show _ = va_up (aRs A) r s q ∧ ∀ k, k < 40 → _ = va_up (aRp A) r p q k
    rw [hs]
    by_cases hqr : q = r
    · subst hqr; rw [vau_s, vau_s, vau_s]; exact ⟨rfl, hp⟩
    · rw [vau_n hqr, vau_n hqr, vau_n hqr]; exact ⟨(a1 q hq).1, fun k hk => by rw [ho q hq hqr k hk]; exact (a1 q hq).2 k hk⟩
  · rw [hw 101 (by decide) (by decide) (by decide), hw 100 (by decide) (by decide) (by decide)]; exact a2 t ht
  · rw [hw 96 (by decide) (by decide) (by decide)]; exact a3.1
  · rw [hw 95 (by decide) (by decide) (by decide)]; exact a3.2
  · rw [hw 95 (by decide) (by decide) (by decide)]; exact a5.1
  · rw [hw 103 (by decide) (by decide) (by decide)]; exact a5.2 g hg
  · rw [hw 95 (by decide) (by decide) (by decide)]; exact a6.1
  · rw [hw 95 (by decide) (by decide) (by decide)]; exact a7
theorem AbM_txt {r : Nat} {s : Int32} {p : Nat → Int32} (hW : wfA A) (h : AbM A vi vl) (hs : w 101 = va_up (vi 101) r s) (hp : ∀ k, k < 60 → w 100 (60 * r + k) = p k) (ho : ∀ q, q < 4 → q ≠ r → ∀ k, k < 60 → w 100 (60 * q + k) = vi 100 (60 * q + k)) (hw : ∀ j, j ≠ 100 → j ≠ 101 → w j = vi j) : AbM (tTx A r s p) w vl := by
  obtain ⟨a1, a2, a3, a4, a5, a6, a7⟩ := h
  refine ⟨fun t ht => ?_, fun q hq => ?_, ⟨?_, ?_⟩, KpM_fr hW a4 rfl (hw 97 (by decide) (by decide)) (fun k _ hk => by rw [hw 96 (by decide) (by decide)]), ⟨?_, fun g hg => ?_⟩, ⟨?_, a6.2⟩, ?_⟩
  · rw [hw 99 (by decide) (by decide), hw 98 (by decide) (by decide)]; exact a1 t ht
  · show _ = va_up (aTs A) r s q ∧ ∀ k, k < 60 → _ = va_up (aTp A) r p q k
    rw [hs]
    by_cases hqr : q = r
    · subst hqr; rw [vau_s, vau_s, vau_s]; exact ⟨rfl, hp⟩
    · rw [vau_n hqr, vau_n hqr, vau_n hqr]; exact ⟨(a2 q hq).1, fun k hk => by rw [ho q hq hqr k hk]; exact (a2 q hq).2 k hk⟩
  · rw [hw 96 (by decide) (by decide)]; exact a3.1
  · rw [hw 95 (by decide) (by decide)]; exact a3.2
  · rw [hw 95 (by decide) (by decide)]; exact a5.1
  · rw [hw 103 (by decide) (by decide)]; exact a5.2 g hg
  · rw [hw 95 (by decide) (by decide)]; exact a6.1
  · rw [hw 95 (by decide) (by decide)]; exact a7
end F50
theorem lgc_lt {x y : Int64} : lg_cmp x y < 0 ↔ x.toInt < y.toInt := by
  unfold lg_cmp
  by_cases h : x > y
  · rw [if_pos h]; have := Int64.lt_iff_toInt_lt.mp h; exact ⟨fun q => absurd q (by decide), fun q => by omega⟩
  · rw [if_neg h]
    have h2 : ¬ y.toInt < x.toInt := fun q => h (Int64.lt_iff_toInt_lt.mpr q)
    by_cases e : x = y
    · rw [if_pos e, e]; exact ⟨fun q => absurd q (by decide), fun q => absurd q (Int.lt_irrefl _)⟩
    · rw [if_neg e]; exact ⟨fun _ => by have : x.toInt ≠ y.toInt := fun q => e (Int64.toInt_inj.mp q); omega, fun _ => by decide⟩
theorem lgc_gt {x y : Int64} : 0 < lg_cmp x y ↔ y.toInt < x.toInt := by
  unfold lg_cmp
  by_cases h : x > y
  · rw [if_pos h]; have := Int64.lt_iff_toInt_lt.mp h; exact ⟨fun _ => this, fun _ => by decide⟩
  · rw [if_neg h]
    have h2 : ¬ y.toInt < x.toInt := fun q => h (Int64.lt_iff_toInt_lt.mpr q)
    by_cases e : x = y
    · rw [if_pos e]; exact ⟨fun q => absurd q (by decide), fun q => absurd q h2⟩
    · rw [if_neg e]; exact ⟨fun q => absurd q (by decide), fun q => absurd q h2⟩
theorem nI_m1 {n : Nat} (h : n < 2 ^ 31) : (nI n - 1).toInt = (n : Int) - 1 := by
  rcases n with _ | m
  · decide
  · rw [nI_pred, nI_toInt (by omega)]; omega
section S50
variable {X : aX} {d : Nat} {vi : Nat → Nat → Int32} {vl : Nat → Nat → Int64} {post : aO} {A : aA}
theorem c_M_in {x lo hi : Int64} (hQ : post (some (.int (bI (decide (lo.toInt ≤ x.toInt ∧ x.toInt ≤ hi.toInt))))) (mk vi vl)) : CallOk X (d + 1) 0 0 k_M_in [.long x, .long lo, .long hi] (mk vi vl) post := by
  refine CallOk.intro (by decide +kernel) rfl (Nat.le_of_ble_eq_true rfl) ?_
  by_cases h1 : lo.toInt ≤ x.toInt
  · have g1 : ¬ lg_cmp x lo < 0 := fun q => by have := lgc_lt.mp q; omega
    by_cases h2 : x.toInt ≤ hi.toInt
    · have g2 : ¬ 0 < lg_cmp x hi := fun q => by have := lgc_gt.mp q; omega
      rw [decide_eq_true ⟨h1, h2⟩] at hQ
      refine b_M_in_0 (fun h0 => absurd h0 (by first | decide | assumption | omega | simp_all)) (fun h0 => b_M_in_6 (fun h6 => absurd h6 (by first | decide | assumption | omega | simp_all)) (fun h6 => b_M_in_13 (b_M_in_18 (by first | assumption | decide | (refine vp_in_nI ?_ ?_ <;> omega) | omega | simp_all) ?_)))
      exact hQ
    · have g2 : 0 < lg_cmp x hi := lgc_gt.mpr (by omega)
      rw [decide_eq_false (fun q => h2 q.2)] at hQ
      refine b_M_in_0 (fun h0 => absurd h0 (by first | decide | assumption | omega | simp_all)) (fun h0 => b_M_in_6 (fun h6 => b_M_in_17 (b_M_in_18 (by first | assumption | decide | (refine vp_in_nI ?_ ?_ <;> omega) | omega | simp_all) ?_)) (fun h6 => absurd h6 (by first | decide | assumption | omega | simp_all)))
      exact hQ
  · have g1 : lg_cmp x lo < 0 := lgc_lt.mpr (by omega)
    rw [decide_eq_false (fun q => h1 q.1)] at hQ
    refine b_M_in_0 (fun h0 => b_M_in_17 (b_M_in_18 (by first | assumption | decide | (refine vp_in_nI ?_ ?_ <;> omega) | omega | simp_all) ?_)) (fun h0 => absurd h0 (by first | decide | assumption | omega | simp_all))
    exact hQ
theorem c_M_isRow {x : Int32} (hQ : post (some (.int (bI (inB x 6)))) (mk vi vl)) : CallOk X (d + 2) 0 0 k_M_isRow [.int x] (mk vi vl) post := by
  refine CallOk.intro (by decide +kernel) rfl (Nat.le_of_ble_eq_true rfl) ?_
  refine b_M_isRow_0 ?_
  refine c_M_in ?_
  have e : bI (decide ((0 : Int64).toInt ≤ x.toInt64.toInt ∧ x.toInt64.toInt ≤ (5 : Int64).toInt)) = bI (inB x 6) := by
    unfold inB; rw [Int32.toInt_toInt64]; congr 1; exact decide_eq_decide.mpr (by have : (0 : Int64).toInt = 0 := rfl; have : (5 : Int64).toInt = 5 := rfl; omega)
  rw [e]
  have hb := bI_01 (inB x 6)
  refine b_M_isRow_9 (by first | assumption | decide | (refine vp_in_nI ?_ ?_ <;> omega) | omega | simp_all) ?_
  exact hQ
theorem c_M_isText {x : Int32} (hQ : post (some (.int (bI (inB x 4)))) (mk vi vl)) : CallOk X (d + 2) 0 0 k_M_isText [.int x] (mk vi vl) post := by
  refine CallOk.intro (by decide +kernel) rfl (Nat.le_of_ble_eq_true rfl) ?_
  refine b_M_isText_0 ?_
  refine c_M_in ?_
  have e : bI (decide ((0 : Int64).toInt ≤ x.toInt64.toInt ∧ x.toInt64.toInt ≤ (3 : Int64).toInt)) = bI (inB x 4) := by
    unfold inB; rw [Int32.toInt_toInt64]; congr 1; exact decide_eq_decide.mpr (by have : (0 : Int64).toInt = 0 := rfl; have : (3 : Int64).toInt = 3 := rfl; omega)
  rw [e]
  have hb := bI_01 (inB x 4)
  refine b_M_isText_9 (by first | assumption | decide | (refine vp_in_nI ?_ ?_ <;> omega) | omega | simp_all) ?_
  exact hQ
theorem c_M_found {f : Nat} (hf : f < 6) (hQ : post (some (.int (-3))) (mk (fdM vi f) vl)) : CallOk X (d + 1) 0 0 k_M_found [.ref 95, .int (nI f)] (mk vi vl) post := by
  refine CallOk.intro (by decide +kernel) rfl (Nat.le_of_ble_eq_true rfl) ?_
  have cf : (nI f).toNatClampNeg = f := nI_clamp (by omega)
  have vf : vp_in (nI f) 6 := vp_in_nI hf (by omega)
  refine b_M_found_0 (fun w0 hw0 => b_M_found_5 (by first | assumption | decide | (refine vp_in_nI ?_ ?_ <;> omega) | omega | simp_all) (by first | assumption | decide | (refine vp_in_nI ?_ ?_ <;> omega) | omega | simp_all) (fun w5 hw5 => b_M_found_15 ?_))
  have e : w5 = fdM vi f := by rw [hw5, hw0, cf]; unfold fdM; rw [up2_n (show 103 ≠ 95 by decide)]
  rw [e]; exact hQ
theorem c_M_tells {v x : Int32} (hQ : post (some (.int x)) (mk (up2 vi 95 10 v) vl)) : CallOk X (d + 1) 0 0 k_M_tells [.ref 95, .int v, .int x] (mk vi vl) post := by
  refine CallOk.intro (by decide +kernel) rfl (Nat.le_of_ble_eq_true rfl) ?_
  refine b_M_tells_0 (fun w0 hw0 => b_M_tells_5 ?_)
  rw [hw0]; exact hQ
theorem c_M_copyAll {a b n : Nat} (ha : a + n ≤ 5976) (hb : b + n ≤ 5976) (hd : a + n ≤ b ∨ b + n ≤ a) (hQ : post none (mk (up1 vi 96 (va_cpy (vi 96) (vi 96) a b n)) vl)) : CallOk X (d + 1) 0 0 k_M_copyAll [.ref 95, .int (nI a), .int (nI b), .int (nI n)] (mk vi vl) post := by
  refine CallOk.intro (by decide +kernel) rfl (Nat.le_of_ble_eq_true rfl) ?_
  refine b_M_copyAll_0 ?_
  have key := loop_up (P := fun j => wp X (d + 1) k_M_copyAll 0 0 3 [some (.ref 95), some (.int (nI a)), some (.int (nI b)), some (.int (nI n)), some (.int (nI j))] [] (mk (up1 vi 96 (va_cpy (vi 96) (vi 96) a b j)) vl) post) n 0 (Nat.zero_le _) ?_ ?_
  · have e : up1 vi 96 (va_cpy (vi 96) (vi 96) a b 0) = vi := by
      have : va_cpy (vi 96) (vi 96) a b 0 = vi 96 := by funext k; unfold va_cpy; rw [if_neg (by omega)]
      rw [this, up1_id]
    rw [e] at key
    exact key
  · have g1 : ¬ ¬ nI n ≤ nI n := fun q => q (Int32.le_refl _)
    refine b_M_copyAll_3 (fun h3 => b_M_copyAll_33 ?_) (fun h3 => absurd h3 (by first | decide | assumption | omega | simp_all))
    exact hQ
  · intro j _ hj ih
    have g1 : ¬ nI n ≤ nI j := nI_ge hj (by omega)
    have e1 : nI a + nI j = nI (a + j) := nI_add _ _
    have e2 : nI b + nI j = nI (b + j) := nI_add _ _
    have v1 : vp_in (nI a + nI j) 5976 := by rw [e1]; exact vp_in_nI (by omega) (by omega)
    have v2 : vp_in (nI b + nI j) 5976 := by rw [e2]; exact vp_in_nI (by omega) (by omega)
    refine b_M_copyAll_3 (fun h3 => absurd h3 (by first | decide | assumption | omega | simp_all)) (fun h3 => b_M_copyAll_9 (by first | assumption | decide | (refine vp_in_nI ?_ ?_ <;> omega) | omega | simp_all) (by first | assumption | decide | (refine vp_in_nI ?_ ?_ <;> omega) | omega | simp_all) (fun w9 hw9 => b_M_copyAll_27 ?_))
    rw [nI_1]
    have e : w9 = up1 vi 96 (va_cpy (vi 96) (vi 96) a b (j + 1)) := by
      rw [hw9, e1, e2, nI_clamp (by omega), nI_clamp (by omega), up2_up1, up1_u, up1_s]
      congr 1
      funext k
      unfold va_cpy
      by_cases hk : k = b + j
      · subst hk; rw [vau_s, if_neg (by omega), if_pos (by omega)]; congr 1; omega
      · rw [vau_n hk]
        by_cases h2 : b ≤ k ∧ k < b + j
        · rw [if_pos h2, if_pos (by omega)]
        · rw [if_neg h2, if_neg (by omega)]
    rw [e]
    exact ih
end S50
