/-! the search through PLANS -/
theorem chgM_1s {vi : Nat → Nat → Int32} {b y c : Nat} (hc : c < 7) : chgM vi b y (nI c) (b + 1) y = chW (vi (b + 1) y) c := by
  have e6 : (nI c = 6) ↔ c = 6 := nI_eq (a := c) (b := 6) (by omega) (by omega)
  have e5 : (nI c = 5) ↔ c = 5 := nI_eq (a := c) (b := 5) (by omega) (by omega)
  unfold chgM chW setM
  simp only [e6, e5]
  by_cases h5 : c = 5
  · rw [if_pos h5, if_pos h5, up2_s, vau_s]
  · rw [if_neg h5, if_neg h5]
    by_cases h6 : c = 6
    · rw [if_pos h6, if_pos h6]
    · rw [if_neg h6, if_neg h6, up2_n (show b + 1 ≠ b + 2 by omega), up2_s, vau_s]
theorem chgM_2s {vi : Nat → Nat → Int32} {b y c : Nat} (hc : c < 7) : chgM vi b y (nI c) (b + 2) y = chS (vi (b + 2) y) c := by
  have e6 : (nI c = 6) ↔ c = 6 := nI_eq (a := c) (b := 6) (by omega) (by omega)
  have e5 : (nI c = 5) ↔ c = 5 := nI_eq (a := c) (b := 5) (by omega) (by omega)
  unfold chgM chS setM
  simp only [e6, e5]
  by_cases h5 : c = 5
  · rw [if_pos h5, if_pos h5, up2_n (show b + 2 ≠ b + 1 by omega)]
  · rw [if_neg h5, if_neg h5]
    by_cases h6 : c = 6
    · rw [if_pos h6, if_pos h6]
    · rw [if_neg h6, if_neg h6, up2_s, vau_s]
theorem pow7_le {m : Nat} (h : m ≤ 5) : 7 ^ m ≤ 16807 := by
  have : 7 ^ m ≤ 7 ^ 5 := Nat.pow_le_pow_right (by decide) h
  simpa using this
section S29
variable {W S K C E wan : Nat → Int32} {n L most : Nat} {wh pl : Bool}
/-- what the search goes on from -/
def BaI (K C E wan : Nat → Int32) (n L most : Nat) (wh pl : Bool) (w : Nat → Nat → Int32) : Prop :=
  w 27 0 = nI n ∧ w 27 3 = nI L ∧ w 26 3 = nI most ∧ w 26 4 = bI wh ∧ w 26 5 = bI pl ∧ w 39 = wan ∧ w 30 = K ∧ w 31 = C ∧ w 32 = E
theorem BaI.fr {w v : Nat → Nat → Int32} (h : BaI K C E wan n L most wh pl v) (hg : gfr w v) : BaI K C E wan n L most wh pl w := by
  obtain ⟨h1, h2, h3, h4, h5, h6, h7, h8, h9⟩ := h
  have o : ∀ j, j ≠ 26 → j ≠ 28 → j ≠ 29 → j ≠ 36 → j ≠ 37 → j ≠ 38 → j ≠ 40 → w j = v j := hg.1
  exact ⟨by rw [o 27 (by decide) (by decide) (by decide) (by decide) (by decide) (by decide) (by decide)]; exact h1, by rw [o 27 (by decide) (by decide) (by decide) (by decide) (by decide) (by decide) (by decide)]; exact h2, by rw [hg.2 3 (by decide)]; exact h3, by rw [hg.2 4 (by decide)]; exact h4, by rw [hg.2 5 (by decide)]; exact h5, by rw [o 39 (by decide) (by decide) (by decide) (by decide) (by decide) (by decide) (by decide)]; exact h6, by rw [o 30 (by decide) (by decide) (by decide) (by decide) (by decide) (by decide) (by decide)]; exact h7, by rw [o 31 (by decide) (by decide) (by decide) (by decide) (by decide) (by decide) (by decide)]; exact h8, by rw [o 32 (by decide) (by decide) (by decide) (by decide) (by decide) (by decide) (by decide)]; exact h9⟩
/-- no good PLAN begins so -/
theorem prune {w : Nat → Nat → Int32} {p : Nat → Nat} {y m : Nat} (hL : L ≤ 8) (hn : y + 1 + m = n) (hp : ∀ z, z < y + 1 → p z < 7) (hno : okY W S K C E wan L most wh pl p y = false) (h : SkI (gdC W S K C E wan L most wh pl n) n w (valP p (y + 1) * 7 ^ m)) : SkI (gdC W S K C E wan L most wh pl n) n w ((valP p (y + 1) + 1) * 7 ^ m) := by
  have hng : ∀ k, valP p (y + 1) * 7 ^ m ≤ k → k < valP p (y + 1) * 7 ^ m + 7 ^ m → gdC W S K C E wan L most wh pl n k = false := by
    intro k h1 h2
    have hd : ∀ z, z ≤ y → dgc n k z = p z := fun z hz => dgc_pre hn hp h1 (by rw [Nat.add_mul, Nat.one_mul]; exact h2) (by omega)
    cases hg : gdC W S K C E wan L most wh pl n k with
    | false => rfl
    | true =>
      have := (alF_iff n 0).mp hg y (Nat.zero_le _) (by omega)
      rw [okY_cg hL hd, hno] at this
      cases this
  have hc := cn_skip (7 ^ m) hng
  rw [Nat.add_mul, Nat.one_mul]
  unfold SkI at h ⊢
  rw [hc]
  refine ⟨h.1, fun h0 => ?_⟩
  rw [fsC_skip h0]
  exact h.2 h0
variable {X : aX} {vl : Nat → Nat → Int64}
theorem c_P_add {d : Nat} {vi : Nat → Nat → Int32} {post : aO} (hQ : post none (mk (up2 (if vi 26 6 = 0 then up1 vi 40 (va_cpy (vi 38) (vi 40) 0 0 5) else vi) 26 6 (vi 26 6 + 1)) vl)) : CallOk X (d + 1) 0 0 k_P_add [.ref 26] (mk vi vl) post := by
  refine CallOk.intro (by decide +kernel) rfl (Nat.le_of_ble_eq_true rfl) ?_
  refine b_P_add_0 (fun h0 => b_P_add_21 (fun w21 hw21 => b_P_add_31 ?_)) (fun h0 => b_P_add_7 (fun w7 hw7 => b_P_add_21 (fun w21 hw21 => b_P_add_31 ?_)))
  · rw [if_neg h0] at hQ; rw [hw21]; exact hQ
  · rw [if_pos h0] at hQ
    have e : w7 26 6 = vi 26 6 := by rw [hw7, up1_n (by decide)]
    rw [hw21, e, hw7]; exact hQ
theorem c_P_goOn (hn5 : n ≤ 5) (hL8 : L ≤ 8) (hm5 : most < 1000) (hK : ∀ k, k < L → vp_in (K k) 6) : ∀ (m d y used : Nat) (p : Nat → Nat) (w : Nat → Nat → Int32) (post : aO), y + m = n → used = ctP p y → (∀ z, z < y → p z < 7) → BaI K C E wan n L most wh pl w → TrI W S K C E n L w p y → (∀ z, z < y → okY W S K C E wan L most wh pl p z = true) → SkI (gdC W S K C E wan L most wh pl n) n w (valP p y * 7 ^ m) →
    (∀ u, gfr u w → TrI W S K C E n L u p y → SkI (gdC W S K C E wan L most wh pl n) n u ((valP p y + 1) * 7 ^ m) → post none (mk u vl)) → CallOk X (d + m + 5) 0 0 k_P_goOn [.ref 26, .int (nI y), .int (nI used)] (mk w vl) post := by
  intro m
  induction m with
  | zero =>
    intro d y used p w post hy hused hp hB hT hok hS hQ
    have hyn : y = n := by omega
    subst hyn
    refine CallOk.intro (by decide +kernel) rfl (Nat.le_of_ble_eq_true rfl) ?_
    have e1 : w 27 0 ≤ nI y := by rw [hB.1]; exact nI_le (Nat.le_refl _) (by omega)
    refine b_P_goOn_0 (fun h0 => b_P_goOn_16 ?_) (fun h0 => absurd h0 (by first | decide | assumption | omega | simp_all))
    refine c_P_add ?_
    refine b_P_goOn_20 ?_
    rw [Nat.pow_zero, Nat.mul_one] at hS hQ
    have hgood : gdC W S K C E wan L most wh pl y (valP p y) = true := by
      refine (alF_iff y 0).mpr (fun z _ hz => ?_)
      have hd : ∀ x, x ≤ z → dgc y (valP p y) x = p x := fun x hx => dgc_pre (m := 0) rfl hp (by simp) (by simp) (by omega)
      rw [okY_cg hL8 hd]
      exact hok z (by omega)
    have hc : cn (gdC W S K C E wan L most wh pl y) (valP p y + 1) = cn (gdC W S K C E wan L most wh pl y) (valP p y) + 1 := by
      simp [cn, hgood]
    have hlt := valP_lt y hp
    have hp7 := pow7_le hn5
    have hcn := cn_le (gdC W S K C E wan L most wh pl y) (valP p y)
    obtain ⟨hS1, hS2⟩ := hS
    rw [hS1, nI_1]
    have hif : (nI (cn (gdC W S K C E wan L most wh pl y) (valP p y)) = 0) ↔ cn (gdC W S K C E wan L most wh pl y) (valP p y) = 0 := nI_eq (a := cn (gdC W S K C E wan L most wh pl y) (valP p y)) (b := 0) (by omega) (by omega)
    by_cases h0 : cn (gdC W S K C E wan L most wh pl y) (valP p y) = 0
    · rw [if_pos (hif.mpr h0)]
      refine hQ _ ⟨fun j h1 h2 h3 h4 h5 h6 h7 => by rw [up2_n h1, up1_n h7], fun k hk => by rw [up2_s, vau_n hk, up1_n (by decide)]⟩ ?_ ?_
      · refine ⟨fun z hz => ?_, fun z hz1 hz2 => absurd hz2 (by omega)⟩
        rw [up2_n (by decide), up1_n (by decide), up2_n (by decide), up1_n (by decide), up2_n (by decide), up1_n (by decide), up2_n (by decide), up1_n (by decide)]
        exact hT.1 z hz
      · refine ⟨by rw [up2_s, vau_s, hc], fun _ z hz => ?_⟩
        have hfs : fsC (gdC W S K C E wan L most wh pl y) (valP p y + 1) = valP p y := by simp only [fsC]; rw [if_neg (by omega)]
        rw [hfs, up2_n (by decide), up1_s, dgc_pre (p := p) (n := y) (y := y) (code := valP p y) (m := 0) rfl hp (by simp) (by simp) hz, ← (hT.1 z hz).2.2.1]
        simp [va_cpy, show z < 5 by omega]
    · rw [if_neg (fun q => h0 (hif.mp q))]
      refine hQ _ ⟨fun j h1 h2 h3 h4 h5 h6 h7 => by rw [up2_n h1], fun k hk => by rw [up2_s, vau_n hk]⟩ ?_ ?_
      · refine ⟨fun z hz => ?_, fun z hz1 hz2 => absurd hz2 (by omega)⟩
        rw [up2_n (by decide), up2_n (by decide), up2_n (by decide), up2_n (by decide)]
        exact hT.1 z hz
      · refine ⟨by rw [up2_s, vau_s, hc], fun _ z hz => ?_⟩
        have hfs : fsC (gdC W S K C E wan L most wh pl y) (valP p y + 1) = fsC (gdC W S K C E wan L most wh pl y) (valP p y) := by simp only [fsC]; rw [if_pos (by omega)]
        rw [hfs, up2_n (by decide)]
        exact hS2 (by omega) z hz
  | succ m ih =>
    intro d y used p w post hy hused hp hB hT hok hS hQ
    refine CallOk.intro (by decide +kernel) rfl (Nat.le_of_ble_eq_true rfl) ?_
    have hyn : y < n := by omega
    have cy : (nI y).toNatClampNeg = y := nI_clamp (by omega)
    have vy : vp_in (nI y) 5 := vp_in_nI (by omega) (by omega)
    have e1 : ¬ w 27 0 ≤ nI y := by rw [hB.1]; exact nI_ge hyn (by omega)
    have e2 : nI y < 5 := nI_lt (a := y) (b := 5) (by omega) (by omega)
    have hcl : used ≤ y := by rw [hused]; exact cn_le _ _
    refine b_P_goOn_0 (fun h0 => absurd h0 (by first | decide | assumption | omega | simp_all)) (fun h0 => b_P_goOn_11 (fun h11 => b_P_goOn_21 (by first | assumption | decide | (refine vp_in_nI ?_ ?_ <;> omega) | omega | simp_all) (by first | assumption | decide | (refine vp_in_nI ?_ ?_ <;> omega) | omega | simp_all) ?_) (fun h11 => absurd h11 (by first | decide | assumption | omega | simp_all)))
    rw [cy, (hT.2 y (Nat.le_refl _) hyn).1, (hT.2 y (Nat.le_refl _) hyn).2]
    have hP7 : valP p y * 7 ^ (m + 1) = (7 * valP p y + 0) * 7 ^ m := by rw [Nat.pow_succ, Nat.add_zero, Nat.mul_comm 7 (valP p y), Nat.mul_assoc, Nat.mul_comm 7 (7 ^ m)]
    have hP8 : (valP p y + 1) * 7 ^ (m + 1) = (7 * valP p y + 7) * 7 ^ m := by rw [Nat.pow_succ, show 7 * valP p y + 7 = (valP p y + 1) * 7 by omega, Nat.mul_assoc, Nat.mul_comm 7 (7 ^ m)]
    rw [hP7] at hS
    rw [hP8] at hQ
    have key := loop_up (P := fun c => ∀ (o6 : Option Value) (u : Nat → Nat → Int32), gfr u w → TrI W S K C E n L u p y → SkI (gdC W S K C E wan L most wh pl n) n u ((7 * valP p y + c) * 7 ^ m) → wp X (d + (m + 1) + 5) k_P_goOn 0 0 45 [some (.ref 26), some (.int (nI y)), some (.int (nI used)), some (.int (W y)), some (.int (S y)), some (.int (nI c)), o6] [] (mk u vl) post) 7 0 (by decide) ?_ ?_
    · exact key _ w gfr_rf hT hS
    · intro o6 u hg hTu hSu
      refine b_P_goOn_45 (fun h45 => b_P_goOn_147 ?_) (fun h45 => absurd h45 (by first | decide | assumption | omega | simp_all))
      exact hQ u hg hTu hSu
    · intro c _ hc ihc o6 u hg hTu hSu
      have e6 : ¬ (6 : Int32) < nI c := nI_nlt (a := 6) (b := c) (by omega) (by omega)
      have eqc : (nI c = 6) ↔ c = 6 := nI_eq (a := c) (b := 6) (by omega) (by omega)
      have hBu := hB.fr hg
      obtain ⟨hB1, hB2, hB3, hB4, hB5, hB6, hB7, hB8, hB9⟩ := id hBu
      have hvp : valP (va_up p y c) (y + 1) = 7 * valP p y + c := by
        simp only [valP]; rw [vau_s, valP_cg y (fun z hz => vau_n (by omega))]
      have hp' : ∀ z, z < y + 1 → va_up p y c z < 7 := fun z hz => by
        by_cases h : z = y
        · rw [h, vau_s]; exact hc
        · rw [vau_n h]; exact hp z (by omega)
      have hct : ctP (va_up p y c) (y + 1) = if c = 6 then used else used + 1 := by
        have e : ctP (va_up p y c) (y + 1) = cn (fun z => !decide (va_up p y c z = 6)) y + if (!decide (va_up p y c y = 6)) = true then 1 else 0 := rfl
        rw [e, vau_s, hused]
        have e2 : cn (fun z => !decide (va_up p y c z = 6)) y = ctP p y := cn_cg _ (fun z hz => by rw [vau_n (by omega)])
        rw [e2]
        by_cases h : c = 6 <;> simp [h]
      have hxy : okY W S K C E wan L most wh pl (va_up p y c) y = (alP pl (W y) c && (decide (ctP (va_up p y c) (y + 1) ≤ most) && ftP wan wh K C E (hpP W S K C E L (va_up p y c)) L y)) := by
        unfold okY; rw [vau_s]
      have hnext : ∀ (x6 : Int32) (u : Nat → Nat → Int32), gfr u w → TrI W S K C E n L u p y → SkI (gdC W S K C E wan L most wh pl n) n u ((7 * valP p y + c + 1) * 7 ^ m) → wp X (d + (m + 1) + 5) k_P_goOn 0 0 141 [some (.ref 26), some (.int (nI y)), some (.int (nI used)), some (.int (W y)), some (.int (S y)), some (.int (nI c)), some (.int x6)] [] (mk u vl) post := by
        intro x6 u a1 a2 a3
        refine b_P_goOn_141 ?_
        rw [nI_1]
        exact ihc _ u a1 a2 (by rw [show 7 * valP p y + (c + 1) = 7 * valP p y + c + 1 by omega]; exact a3)
      have hpr : ∀ (u : Nat → Nat → Int32), okY W S K C E wan L most wh pl (va_up p y c) y = false → SkI (gdC W S K C E wan L most wh pl n) n u ((7 * valP p y + c) * 7 ^ m) → SkI (gdC W S K C E wan L most wh pl n) n u ((7 * valP p y + c + 1) * 7 ^ m) := by
        intro u a1 a2
        have := prune (W := W) (S := S) (K := K) (C := C) (E := E) (wan := wan) (most := most) (wh := wh) (pl := pl) (w := u) (p := va_up p y c) (n := n) (L := L) (y := y) (m := m) hL8 (by omega) hp' a1 (by rw [hvp]; exact a2)
        rw [hvp] at this
        exact this
      -- behind the choice of usedThen
      have hmid : wp X (d + (m + 1) + 5) k_P_goOn 0 0 66 [some (.ref 26), some (.int (nI y)), some (.int (nI used)), some (.int (W y)), some (.int (S y)), some (.int (nI c)), o6] [.int (nI (ctP (va_up p y c) (y + 1)))] (mk u vl) post := by
        have hcb : ctP (va_up p y c) (y + 1) ≤ y + 1 := cn_le _ _
        by_cases hmo : ctP (va_up p y c) (y + 1) ≤ most
        · have g1 : ¬ u 26 3 < nI (ctP (va_up p y c) (y + 1)) := by rw [hB3]; exact nI_nlt hmo (by omega)
          refine b_P_goOn_66 (fun h66 => absurd h66 (by first | decide | assumption | omega | simp_all)) (fun h66 => b_P_goOn_77 ?_)
          refine c_P_isAllowed hB5 (by omega) hc ?_
          rw [(hTu.2 y (Nat.le_refl _) hyn).1]
          cases hal : alP pl (W y) c
          · refine b_P_goOn_84 (fun h84 => ?_) (fun h84 => absurd h84 (by first | decide | assumption | omega | simp_all))
            exact hnext _ u hg hTu (hpr u (by rw [hxy, hal]; rfl) hSu)
          · refine b_P_goOn_84 (fun h84 => absurd h84 (by first | decide | assumption | omega | simp_all)) (fun h84 => b_P_goOn_87 ?_)
            refine c_C_change (b := 27) isCl_27 (by omega) ?_
            generalize hu1 : chgM u 27 y (nI c) = u1
            have o1 : ∀ j, j ≠ 28 → j ≠ 29 → u1 j = u j := fun j h1 h2 => by rw [← hu1]; exact chgM_o h1 h2
            have a28 : ∀ z, z ≠ y → u1 28 z = u 28 z := fun z hz => by rw [← hu1]; exact chgM_1 (b := 27) hz
            have a29 : ∀ z, z ≠ y → u1 29 z = u 29 z := fun z hz => by rw [← hu1]; exact chgM_2 (b := 27) hz
            have y28 : u1 28 y = chW (W y) c := by rw [← hu1, chgM_1s (b := 27) hc]; show chW (u 28 y) c = _; rw [(hTu.2 y (Nat.le_refl _) hyn).1]
            have y29 : u1 29 y = chS (S y) c := by rw [← hu1, chgM_2s (b := 27) hc]; show chS (u 29 y) c = _; rw [(hTu.2 y (Nat.le_refl _) hyn).2]
            refine b_P_goOn_97 ?_
            refine c_C_settle (b := 27) (L := L) isCl_27 (by omega) (by rw [o1 27 (by decide) (by decide)]; exact hB2) hL8 ?_
            generalize hu2 : stM u1 27 L y = u2
            have o2 : ∀ j, j ≠ 36 → j ≠ 37 → u2 j = u1 j := fun j h1 h2 => by rw [← hu2]; exact stM_o h1 h2
            have h36 : ∀ x, x ≤ y → u2 36 x = hpP W S K C E L (va_up p y c) x := by
              have hlow : ∀ x, x < y → u1 36 x = hpP W S K C E L (va_up p y c) x := fun x hx => by
                rw [o1 36 (by decide) (by decide), (hTu.1 x hx).2.2.2]
                exact hpP_cg hL8 (fun z hz => (vau_n (by omega)).symm)
              have e36 : u2 36 = va_up (u1 36) y (hpV u1 27 L y) := by rw [← hu2]; exact stM_9 (b := 27)
              intro x hx
              rw [e36]
              by_cases hxy2 : x = y
              · subst hxy2
                rw [vau_s]
                show hpF (u1 28) (u1 29) (u1 30) (u1 31) (u1 32) (u1 36) L x = hapF _ _ K C E L x
                rw [hapF_eq hL8, o1 30 (by decide) (by decide), o1 31 (by decide) (by decide), o1 32 (by decide) (by decide), hB7, hB8, hB9]
                exact hpF_cg hL8 (by rw [y28, vau_s]) (by rw [y29, vau_s]) (fun _ _ => rfl) (fun _ _ => rfl) (fun _ _ => rfl) hlow
              · rw [vau_n hxy2]; exact hlow x (by omega)
            refine b_P_goOn_105 ?_
            have q27 : u2 27 3 = nI L := by rw [o2 27 (by decide) (by decide), o1 27 (by decide) (by decide)]; exact hB2
            have q26 : ∀ k, u2 26 k = u 26 k := fun k => by rw [o2 26 (by decide) (by decide), o1 26 (by decide) (by decide)]
            have q30 : u2 30 = K := by rw [o2 30 (by decide) (by decide), o1 30 (by decide) (by decide)]; exact hB7
            have q31 : u2 31 = C := by rw [o2 31 (by decide) (by decide), o1 31 (by decide) (by decide)]; exact hB8
            have q32 : u2 32 = E := by rw [o2 32 (by decide) (by decide), o1 32 (by decide) (by decide)]; exact hB9
            have q39 : u2 39 = wan := by rw [o2 39 (by decide) (by decide), o1 39 (by decide) (by decide)]; exact hB6
            refine c_P_fits (L := L) (by rw [q26]; exact hB4) (by omega) q27 hL8 (by rw [q30]; exact hK) ?_
            have eft : ftP (u2 39) wh (u2 30) (u2 31) (u2 32) (u2 36) L y = ftP wan wh K C E (hpP W S K C E L (va_up p y c)) L y := by
              rw [q39, q30, q31, q32]; exact ftP_cg (fun _ _ => rfl) (fun _ _ => rfl) (fun _ _ => rfl) h36
            rw [eft]
            have hgu2 : gfr u2 w := by
              refine gfr_tr ⟨fun j h1 h2 h3 h4 h5 h6 h7 => ?_, fun k _ => q26 k⟩ hg
              rw [o2 j h4 h5, o1 j h2 h3]
            have hSu2 : ∀ c', SkI (gdC W S K C E wan L most wh pl n) n u c' → SkI (gdC W S K C E wan L most wh pl n) n u2 c' := by
              intro c' hs
              refine ⟨by rw [q26]; exact hs.1, fun h0 z hz => ?_⟩
              rw [o2 40 (by decide) (by decide), o1 40 (by decide) (by decide)]
              exact hs.2 h0 z hz
            -- the YEAR as it was
            have hback : ∀ (x6 : Int32) (v : Nat → Nat → Int32), gfr v w → (∀ z, z < y → v 28 z = u2 28 z ∧ v 29 z = u2 29 z ∧ v 38 z = u2 38 z ∧ v 36 z = u2 36 z) → (∀ z, y < z → z < n → v 28 z = u2 28 z ∧ v 29 z = u2 29 z) → SkI (gdC W S K C E wan L most wh pl n) n v ((7 * valP p y + c + 1) * 7 ^ m) → wp X (d + (m + 1) + 5) k_P_goOn 0 0 130 [some (.ref 26), some (.int (nI y)), some (.int (nI used)), some (.int (W y)), some (.int (S y)), some (.int (nI c)), some (.int x6)] [] (mk v vl) post := by
              intro x6 v hgv hv1 hv2 hsv
              refine b_P_goOn_130 ?_
              refine c_C_set (b := 27) isCl_27 (by omega) ?_
              have so : ∀ j, j ≠ 28 → j ≠ 29 → setM v 27 y (W y) (S y) j = v j := fun j h1 h2 => by unfold setM; rw [up2_n h2, up2_n h1]
              have s28 : setM v 27 y (W y) (S y) 28 = va_up (v 28) y (W y) := by unfold setM; rw [up2_n (by decide), up2_s]
              have s29 : setM v 27 y (W y) (S y) 29 = va_up (v 29) y (S y) := by unfold setM; rw [up2_s, up2_n (by decide)]
              refine hnext _ _ (gfr_tr ⟨fun j h1 h2 h3 h4 h5 h6 h7 => so j h2 h3, fun k _ => by rw [so 26 (by decide) (by decide)]⟩ hgv) ⟨fun z hz => ?_, fun z hz1 hz2 => ?_⟩ ?_
              · rw [s28, s29, vau_n (by omega), vau_n (by omega), so 38 (by decide) (by decide), so 36 (by decide) (by decide)]
                obtain ⟨b1, b2, b3, b4⟩ := hv1 z hz
                rw [b1, b2, b3, b4, o2 28 (by decide) (by decide), o2 29 (by decide) (by decide), o2 38 (by decide) (by decide), a28 z (by omega), a29 z (by omega), o1 38 (by decide) (by decide), h36 z (by omega)]
                obtain ⟨c1, c2, c3, c4⟩ := hTu.1 z hz
                exact ⟨c1, c2, c3, hpP_cg hL8 (fun x hx => vau_n (by omega))⟩
              · rw [s28, s29]
                by_cases hzy : z = y
                · subst hzy; rw [vau_s, vau_s]; exact ⟨rfl, rfl⟩
                · rw [vau_n hzy, vau_n hzy]
                  obtain ⟨b1, b2⟩ := hv2 z (by omega) hz2
                  rw [b1, b2, o2 28 (by decide) (by decide), o2 29 (by decide) (by decide), a28 z hzy, a29 z hzy]
                  exact hTu.2 z hz1 hz2
              · exact ⟨by rw [so 26 (by decide) (by decide)]; exact hsv.1, fun h0 z hz => by rw [so 40 (by decide) (by decide)]; exact hsv.2 h0 z hz⟩
            cases hft : ftP wan wh K C E (hpP W S K C E L (va_up p y c)) L y
            · refine b_P_goOn_110 (fun h110 => ?_) (fun h110 => absurd h110 (by first | decide | assumption | omega | simp_all))
              refine hback _ u2 hgu2 (fun _ _ => ⟨rfl, rfl, rfl, rfl⟩) (fun _ _ _ => ⟨rfl, rfl⟩) (hSu2 _ (hpr u ?_ hSu))
              rw [hxy, hft]; simp
            · refine b_P_goOn_110 (fun h110 => absurd h110 (by first | decide | assumption | omega | simp_all)) (fun h110 => b_P_goOn_113 (by first | assumption | decide | (refine vp_in_nI ?_ ?_ <;> omega) | omega | simp_all) (fun w113 hw113 => b_P_goOn_121 ?_))
              rw [cy] at hw113
              have q3 : ∀ j, j ≠ 38 → w113 j = u2 j := fun j h => by rw [hw113, up2_n h]
              have q38 : w113 38 = va_up (u2 38) y (nI c) := by rw [hw113, up2_s]
              have hg3 : gfr w113 w := gfr_tr ⟨fun j h1 h2 h3 h4 h5 h6 h7 => q3 j h6, fun k _ => by rw [q3 26 (by decide)]⟩ hgu2
              have hT3 : TrI W S K C E n L w113 (va_up p y c) (y + 1) := by
                refine ⟨fun z hz => ?_, fun z hz1 hz2 => ?_⟩
                · rw [q3 28 (by decide), q3 29 (by decide), q3 36 (by decide), q38, h36 z (by omega), o2 28 (by decide) (by decide), o2 29 (by decide) (by decide)]
                  by_cases hzy : z = y
                  · subst hzy; rw [vau_s, vau_s, y28, y29]; exact ⟨rfl, rfl, rfl, rfl⟩
                  · rw [vau_n hzy, vau_n hzy, a28 z hzy, a29 z hzy, o2 38 (by decide) (by decide), o1 38 (by decide) (by decide)]
                    obtain ⟨c1, c2, c3, c4⟩ := hTu.1 z (by omega)
                    exact ⟨c1, c2, c3, rfl⟩
                · rw [q3 28 (by decide), q3 29 (by decide), o2 28 (by decide) (by decide), o2 29 (by decide) (by decide), a28 z (by omega), a29 z (by omega)]
                  exact hTu.2 z (by omega) hz2
              have hS3 : SkI (gdC W S K C E wan L most wh pl n) n w113 (valP (va_up p y c) (y + 1) * 7 ^ m) := by
                rw [hvp]
                have := hSu2 _ hSu
                exact ⟨by rw [q3 26 (by decide)]; exact this.1, fun h0 z hz => by rw [q3 40 (by decide)]; exact this.2 h0 z hz⟩
              rw [nI_1]
              refine ih d (y + 1) (ctP (va_up p y c) (y + 1)) (va_up p y c) w113 _ (by omega) rfl hp' (hB.fr hg3) hT3 (fun z hz => ?_) hS3 (fun v hgv hTv hSv => ?_)
              · by_cases hzy : z = y
                · subst hzy; rw [hxy, hal, hft, decide_eq_true hmo]; rfl
                · rw [okY_cg hL8 (fun x hx => vau_n (by omega))]; exact hok z (by omega)
              · rw [hvp] at hSv
                refine hback _ v (gfr_tr hgv hg3) (fun z hz => ?_) (fun z hz1 hz2 => ?_) hSv
                · obtain ⟨b1, b2, b3, b4⟩ := hTv.1 z (by omega)
                  obtain ⟨c1, c2, c3, c4⟩ := hT3.1 z (by omega)
                  rw [b1, b2, b3, b4, ← c1, ← c2, ← c3, ← c4, q3 28 (by decide), q3 29 (by decide), q3 36 (by decide), q38, vau_n (by omega)]
                  exact ⟨rfl, rfl, rfl, rfl⟩
                · obtain ⟨b1, b2⟩ := hTv.2 z (by omega) hz2
                  obtain ⟨c1, c2⟩ := hT3.2 z (by omega) hz2
                  rw [b1, b2, ← c1, ← c2, q3 28 (by decide), q3 29 (by decide)]
                  exact ⟨rfl, rfl⟩
        · have g1 : u 26 3 < nI (ctP (va_up p y c) (y + 1)) := by rw [hB3]; exact nI_lt (by omega) (by omega)
          refine b_P_goOn_66 (fun h66 => ?_) (fun h66 => absurd h66 (by first | decide | assumption | omega | simp_all))
          exact hnext _ u hg hTu (hpr u (by rw [hxy, decide_eq_false hmo]; simp) hSu)
      refine b_P_goOn_45 (fun h45 => absurd h45 (by first | decide | assumption | omega | simp_all)) (fun h45 => b_P_goOn_52 (fun h52 => b_P_goOn_63 ?_) (fun h52 => b_P_goOn_59 ?_))
      · rw [nI_1]
        rw [eqc] at h52
        rw [hct, if_neg h52] at hmid
        exact hmid
      · rw [eqc] at h52
        rw [hct, if_pos h52] at hmid
        exact hmid
end S29
