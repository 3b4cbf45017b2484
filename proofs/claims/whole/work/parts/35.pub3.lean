/-! STITCHES, undone, kept, taken up again -/
section P35
variable {vi w : Nat → Nat → Int32} {b : Nat} {c : Cl}
theorem nI_sub {a k : Nat} (h : k ≤ a) : nI a - nI k = nI (a - k) := by
  have : nI a = nI (a - k) + nI k := by rw [nI_add]; congr 1; omega
  rw [this, Int32.add_sub_cancel]
theorem nI_5 {ch : Nat} (h : ch ≤ 6) : (nI ch = 5) ↔ ch = 5 := nI_eq (b := 5) (by omega) (by omega)
theorem nI_6 {ch : Nat} (h : ch ≤ 6) : (nI ch = 6) ↔ ch = 6 := nI_eq (b := 6) (by omega) (by omega)
theorem ClC_stc {y ch : Nat} (h : ClC c b vi) (hy : y < cN c) (hc : ch ≤ 6) (hw : ∀ j, j ≠ b + 9 → j ≠ b + 10 → w j = stiM vi b (cT c) y (nI ch) j) : ClC (stc c y ch) b w := by
  obtain ⟨h1, h2, h3, h4, h5, h6⟩ := h
  unfold stiM at hw
  have o : ∀ j, j ≠ b → j ≠ b + 1 → j ≠ b + 2 → j ≠ b + 6 → j ≠ b + 7 → j ≠ b + 8 → j ≠ b + 9 → j ≠ b + 10 → w j = vi j := fun j a0 a1 a2 a6 a7 a8 a9 a10 => by
    rw [hw j a9 a10, chgM_o a1 a2, up2_n a0, up2_n a8, up2_n a7, up2_n a6]
  have ob : ∀ k, k ≠ 7 → w b k = vi b k := fun k hk => by
    rw [hw b (by omega) (by omega), chgM_o (by omega) (by omega), up2_s, vau_n hk, up2_n (by omega), up2_n (by omega), up2_n (by omega)]
  have o7 : w b 7 = nI (cT c + 1) := by rw [hw b (by omega) (by omega), chgM_o (by omega) (by omega), up2_s, vau_s]
  have p6 : w (b + 6) = va_up (vi (b + 6)) (cT c) (nI y) := by
    rw [hw _ (by omega) (by omega), chgM_o (by omega) (by omega), up2_n (by omega), up2_n (by omega), up2_n (by omega), up2_s]
  have p7 : w (b + 7) = va_up (vi (b + 7)) (cT c) (vi (b + 1) y) := by
    rw [hw _ (by omega) (by omega), chgM_o (by omega) (by omega), up2_n (by omega), up2_n (by omega), up2_s, up2_n (by omega)]
  have p8 : w (b + 8) = va_up (vi (b + 8)) (cT c) (vi (b + 2) y) := by
    rw [hw _ (by omega) (by omega), chgM_o (by omega) (by omega), up2_n (by omega), up2_s, up2_n (by omega), up2_n (by omega)]
  have q1 : ∀ z, z < cN c → w (b + 1) z = va_up (cW c) y (chW (cW c y) ch) z := fun z hz => by
    rw [hw _ (by omega) (by omega)]
    by_cases hzy : z = y
    · subst hzy
      rw [chgM_1s (by omega), vau_s, up2_n (by omega), up2_n (by omega), up2_n (by omega), up2_n (by omega), (h4 z hz).1]
    · rw [chgM_1 hzy, vau_n hzy, up2_n (by omega), up2_n (by omega), up2_n (by omega), up2_n (by omega), (h4 z hz).1]
  have q2 : ∀ z, z < cN c → w (b + 2) z = va_up (cS c) y (chS (cS c y) ch) z := fun z hz => by
    rw [hw _ (by omega) (by omega)]
    by_cases hzy : z = y
    · subst hzy
      rw [chgM_2s (by omega), vau_s, up2_n (by omega), up2_n (by omega), up2_n (by omega), up2_n (by omega), (h4 z hz).2]
    · rw [chgM_2 hzy, vau_n hzy, up2_n (by omega), up2_n (by omega), up2_n (by omega), up2_n (by omega), (h4 z hz).2]
  refine ⟨by rw [ob 0 (by decide)]; exact h1, by rw [ob 3 (by decide)]; exact h2, o7, fun z hz => ⟨q1 z hz, q2 z hz⟩, fun k hk => ?_, fun i hi => ?_⟩
  · rw [o (b + 3) (by omega) (by omega) (by omega) (by omega) (by omega) (by omega) (by omega) (by omega), o (b + 4) (by omega) (by omega) (by omega) (by omega) (by omega) (by omega) (by omega) (by omega), o (b + 5) (by omega) (by omega) (by omega) (by omega) (by omega) (by omega) (by omega) (by omega)]
    exact h5 k hk
  · have hi : i < cT c + 1 := hi
    show ∃ z, z < cN c ∧ w (b + 6) i = nI z ∧ ∀ x, x < cN c → va_up (cHW c) (cT c) (cW c) i x = (if x = z then w (b + 7) i else if i + 1 < cT c + 1 then va_up (cHW c) (cT c) (cW c) (i + 1) x else va_up (cW c) y (chW (cW c y) ch) x) ∧ va_up (cHS c) (cT c) (cS c) i x = (if x = z then w (b + 8) i else if i + 1 < cT c + 1 then va_up (cHS c) (cT c) (cS c) (i + 1) x else va_up (cS c) y (chS (cS c y) ch) x)
    rw [p6, p7, p8]
    by_cases hit : i = cT c
    · subst hit
      refine ⟨y, hy, by rw [vau_s], fun x hx => ?_⟩
      rw [if_neg (Nat.lt_irrefl _), if_neg (Nat.lt_irrefl _), vau_s, vau_s, vau_s, vau_s]
      by_cases hxy : x = y
      · subst hxy; rw [if_pos rfl, if_pos rfl]; exact ⟨(h4 x hx).1.symm, (h4 x hx).2.symm⟩
      · rw [if_neg hxy, if_neg hxy, vau_n hxy, vau_n hxy]; exact ⟨rfl, rfl⟩
    · obtain ⟨z, hz, e1, e2⟩ := h6 i (by omega)
      refine ⟨z, hz, by rw [vau_n hit]; exact e1, fun x hx => ?_⟩
      obtain ⟨f1, f2⟩ := e2 x hx
      rw [if_pos (show i + 1 < cT c + 1 by omega), if_pos (show i + 1 < cT c + 1 by omega), vau_n hit, vau_n hit, vau_n hit, vau_n hit, f1, f2]
      by_cases hit1 : i + 1 = cT c
      · rw [hit1, vau_s, vau_s, if_neg (Nat.lt_irrefl _), if_neg (Nat.lt_irrefl _)]; exact ⟨rfl, rfl⟩
      · rw [vau_n hit1, vau_n hit1, if_pos (show i + 1 < cT c by omega), if_pos (show i + 1 < cT c by omega)]; exact ⟨rfl, rfl⟩
theorem unR_h {m : Nat} (hn5 : cN c ≤ 5) (h : ClC c b vi) : ∀ (t : Nat) (w : Nat → Nat → Int32), m + t ≤ cT c → (∀ j, j ≠ b + 1 → j ≠ b + 2 → w j = vi j) → (∀ y, y < cN c → w (b + 1) y = (if m + t < cT c then cHW c (m + t) y else cW c y) ∧ w (b + 2) y = (if m + t < cT c then cHS c (m + t) y else cS c y)) → ∀ y, y < cN c → unR w b m t (b + 1) y = (if m < cT c then cHW c m y else cW c y) ∧ unR w b m t (b + 2) y = (if m < cT c then cHS c m y else cS c y)
  | 0, w, _, _, hy => hy
  | t + 1, w, hm, ho, hy => by
    intro y hyn
    obtain ⟨z, hz, e1, e2⟩ := h.2.2.2.2.2 (m + t) (by omega)
    show unR (setM w b (w (b + 6) (m + t)).toNatClampNeg (w (b + 7) (m + t)) (w (b + 8) (m + t))) b m t (b + 1) y = _ ∧ unR (setM w b (w (b + 6) (m + t)).toNatClampNeg (w (b + 7) (m + t)) (w (b + 8) (m + t))) b m t (b + 2) y = _
    rw [ho (b + 6) (by omega) (by omega), ho (b + 7) (by omega) (by omega), ho (b + 8) (by omega) (by omega), e1, nI_clamp (by omega)]
    refine unR_h hn5 h t _ (by omega) (fun j a1 a2 => by unfold setM; rw [up2_n a2, up2_n a1]; exact ho j a1 a2) (fun x hx => ?_) y hyn
    obtain ⟨f1, f2⟩ := e2 x hx
    obtain ⟨g1, g2⟩ := hy x hx
    rw [if_pos (show m + t < cT c by omega), if_pos (show m + t < cT c by omega), f1, f2]
    unfold setM
    rw [up2_n (show b + 1 ≠ b + 2 by omega), up2_s, up2_s, up2_n (show b + 2 ≠ b + 1 by omega)]
    by_cases hxz : x = z
    · subst hxz; rw [vau_s, vau_s, if_pos rfl, if_pos rfl]; exact ⟨rfl, rfl⟩
    · rw [vau_n hxz, vau_n hxz, if_neg hxz, if_neg hxz, g1, g2, show m + (t + 1) = m + t + 1 by omega]; exact ⟨rfl, rfl⟩
theorem ClC_un {m : Nat} (hn5 : cN c ≤ 5) (h : ClC c b vi) (hm : m < cT c) (hw : ∀ j, j ≠ b + 9 → j ≠ b + 10 → w j = up2 (unR vi b m (cT c - m)) b 7 (nI m) j) : ClC (unC c m) b w := by
  have key := unR_h (m := m) hn5 h (cT c - m) vi (by omega) (fun _ _ _ => rfl) (fun y hy => by rw [if_neg (by omega), if_neg (by omega)]; exact h.2.2.2.1 y hy)
  obtain ⟨h1, h2, h3, h4, h5, h6⟩ := h
  have o : ∀ j, j ≠ b → j ≠ b + 1 → j ≠ b + 2 → j ≠ b + 9 → j ≠ b + 10 → w j = vi j := fun j a0 a1 a2 a9 a10 => by rw [hw j a9 a10, up2_n a0, unR_o a1 a2]
  have ob : ∀ k, k ≠ 7 → w b k = vi b k := fun k hk => by rw [hw b (by omega) (by omega), up2_s, vau_n hk, unR_o (by omega) (by omega)]
  have o7 : w b 7 = nI m := by rw [hw b (by omega) (by omega), up2_s, vau_s]
  refine ⟨by rw [ob 0 (by decide)]; exact h1, by rw [ob 3 (by decide)]; exact h2, o7, fun z hz => ?_, fun k hk => ?_, fun i hi => ?_⟩
  · have := key z hz
    rw [if_pos hm, if_pos hm] at this
    rw [hw (b + 1) (by omega) (by omega), hw (b + 2) (by omega) (by omega), up2_n (by omega), up2_n (by omega)]
    exact this
  · rw [o (b + 3) (by omega) (by omega) (by omega) (by omega) (by omega), o (b + 4) (by omega) (by omega) (by omega) (by omega) (by omega), o (b + 5) (by omega) (by omega) (by omega) (by omega) (by omega)]
    exact h5 k hk
  · have hi : i < m := hi
    obtain ⟨z, hz, e1, e2⟩ := h6 i (by omega)
    refine ⟨z, hz, by rw [o (b + 6) (by omega) (by omega) (by omega) (by omega) (by omega)]; exact e1, fun x hx => ?_⟩
    obtain ⟨f1, f2⟩ := e2 x hx
    show cHW c i x = (if x = z then w (b + 7) i else if i + 1 < m then cHW c (i + 1) x else cHW c m x) ∧ cHS c i x = (if x = z then w (b + 8) i else if i + 1 < m then cHS c (i + 1) x else cHS c m x)
    rw [o (b + 7) (by omega) (by omega) (by omega) (by omega) (by omega), o (b + 8) (by omega) (by omega) (by omega) (by omega) (by omega), f1, f2, if_pos (show i + 1 < cT c by omega), if_pos (show i + 1 < cT c by omega)]
    by_cases him : i + 1 < m
    · rw [if_pos him, if_pos him]; exact ⟨rfl, rfl⟩
    · rw [if_neg him, if_neg him, show i + 1 = m by omega]; exact ⟨rfl, rfl⟩
theorem ClC_en {k : Nat} {s : Int32} (h : ClC c b vi) (h0 : cT c = 0) : ClC (enC c k s) b (up2 vi (b + 5) k s) := by
  obtain ⟨h1, h2, h3, h4, h5, h6⟩ := h
  have o : ∀ j, j ≠ b + 5 → up2 vi (b + 5) k s j = vi j := fun j hj => up2_n hj
  refine ⟨by rw [o b (by omega)]; exact h1, by rw [o b (by omega)]; exact h2, by rw [o b (by omega)]; exact h3, fun y hy => ?_, fun q hq => ?_, fun i hi => ?_⟩
  · rw [o _ (by omega), o _ (by omega)]; exact h4 y hy
  · rw [o _ (by omega), o _ (by omega), up2_s]
    show _ ∧ _ ∧ _ = va_up (cEn c) k s q
    by_cases hqk : q = k
    · subst hqk; rw [vau_s, vau_s]; exact ⟨(h5 q hq).1, (h5 q hq).2.1, rfl⟩
    · rw [vau_n hqk, vau_n hqk]; exact h5 q hq
  · have hi : i < cT c := hi
    exact absurd hi (by omega)
end P35
section S35
variable {X : aX} {d : Nat} {vi w : Nat → Nat → Int32} {vl : Nat → Nat → Int64} {post : aO} {A : aA}
theorem AbC_kp {c : Cl} {k : Nat} (hW : wfA A) (h : AbC A vi vl) (hk : k < 3) (hc : ClC c (62 + 11 * k) w) (h0 : 0 < cN c) (hw : ∀ j, (j < 62 + 11 * k ∨ 62 + 11 * k + 8 < j) → w j = vi j) : AbC (tKp A (va_up (aKp A) k (some c))) w vl := by
  rw [AbC_iff] at h ⊢
  obtain ⟨h1, h2, h3, h4, h5⟩ := h
  refine ⟨RwC_fr h1 (fun j _ _ => hw j (by omega)) rfl rfl rfl rfl, CuC_fr hW.L8 h2 (fun j _ _ => hw j (by omega)) rfl, fun q hq => ?_, FdC_fr h4 (by rw [hw 0 (by omega)]) (hw 41 (by omega)) rfl rfl, TlC_fr h5 (by rw [hw 0 (by omega)]) rfl rfl rfl⟩
  show match va_up (aKp A) k (some c) q with | none => w (62 + 11 * q) 0 = nI 0 | some c => ClC c (62 + 11 * q) w ∧ 0 < cN c
  by_cases hqk : q = k
  · subst hqk; rw [vau_s]; exact ⟨hc, h0⟩
  · rw [vau_n hqk]
    have := h3 q hq
    cases he : aKp A q with
    | none => rw [he] at this; show w _ 0 = _; rw [hw _ (by omega)]; exact this
    | some c => rw [he] at this; exact ⟨ClC_fr this.1 (fun j a b => hw j (by omega)), this.2⟩
theorem s_end {k s : Int32} (hW : wfA A) (hA : AbC A vi vl) (hQ : PC vi vl post (oEnd A k s)) : CallOk X (d + 5) 0 0 k_S_end [.ref 0, .int k, .int s] (mk vi vl) post := by
  refine CallOk.intro (by decide +kernel) rfl (Nat.le_of_ble_eq_true rfl) ?_
  unfold oEnd at hQ
  refine b_S_end_0 ?_
  refine c_S_isLaw hA.2.1.1.2.1 hW.L8 (fun hy => ?_) (fun hy => ?_)
  · rw [inB_t hy] at hQ
    have h8' := hW.L8
    obtain ⟨j, hj, rfl⟩ := vp_in_of hy (by omega)
    have cj : (nI j).toNatClampNeg = j := nI_clamp (by omega)
    refine b_S_end_5 (fun h5 => absurd h5 (by first | decide | assumption | omega | simp_all)) (fun h5 => b_S_end_8 ?_)
    refine c_S_isScene (fun hs => ?_) (fun hs => ?_)
    · rw [inB_t hs, if_pos ⟨rfl, rfl⟩, cj] at hQ
      have ht : vi 3 7 = nI (cT (aCu A)) := hA.2.1.1.2.2.1
      have h40 : cT (aCu A) ≤ 40 := hW.2.2.1.2.2.1
      have vj : vp_in (nI j) 8 := vp_in_nI (by omega) (by omega)
      by_cases h0 : 0 < cT (aCu A)
      · have g : ¬ vi 3 7 ≤ 0 := by rw [ht]; exact nI_ge (a := 0) (b := cT (aCu A)) (by omega) (by omega)
        refine b_S_end_12 (fun h12 => b_S_end_17 (fun h17 => absurd h17 (by first | decide | assumption | omega | simp_all)) (fun h17 => b_S_end_27 ?_)) (fun h12 => absurd h12 (by first | decide | assumption | omega | simp_all))
        rw [if_pos h0] at hQ
        exact hQ _ _ hA smM_rf
      · have h0' : cT (aCu A) = 0 := by omega
        have g : vi 3 7 ≤ 0 := by rw [ht, h0']; exact Int32.le_refl _
        refine b_S_end_12 (fun h12 => b_S_end_17 (fun h17 => ?_) (fun h17 => absurd h17 (by first | decide | assumption | omega | simp_all))) (fun h12 => absurd h12 (by first | decide | assumption | omega | simp_all))
        refine b_S_end_30 (by first | assumption | decide | (refine vp_in_nI ?_ ?_ <;> omega) | omega | simp_all) (by first | assumption | decide | (refine vp_in_nI ?_ ?_ <;> omega) | omega | simp_all) (fun w30 hw30 => b_S_end_50 ?_)
        rw [cj] at hw30
        rw [if_neg h0] at hQ
        have hc1 : ClC (enC (aCu A) j s) 3 w30 := by rw [hw30]; exact ClC_en hA.2.1.1 h0'
        have hwv : wfV (enC (aCu A) j s) := hW.2.2.1.v
        refine a_settleFrom isCl_3 hwv hc1.v (fun w2 h2 hv2 hs2 => ?_)
        refine b_S_end_58 ?_
        have e : vi 8 j = cEn (aCu A) j := (hA.2.1.1.2.2.2.2.1 j hj).2.2
        rw [cj, e]
        have o2 : ∀ q, (q < 3 ∨ 40 < q) → w2 q = vi q := fun q hq => by rw [h2 q (by omega) (by omega), hw30, up2_n (by omega)]
        exact hQ _ _ (AbC_cu hA (ClC_fr hc1 (fun q a b => h2 q (by omega) (by omega))) hs2 o2) (smM_of fun q hq => o2 q (by omega))
    · rw [inB_f hs, if_neg (fun q => by cases q.2)] at hQ
      refine b_S_end_12 (fun h12 => absurd h12 (by first | decide | assumption | omega | simp_all)) (fun h12 => b_S_end_15 ?_)
      exact hQ _ _ hA smM_rf
  · rw [inB_f hy, if_neg (fun q => by cases q.1)] at hQ
    refine b_S_end_5 (fun h5 => b_S_end_15 ?_) (fun h5 => absurd h5 (by first | decide | assumption | omega | simp_all))
    exact hQ _ _ hA smM_rf
/-- the CLOTH after a STITCH is settled -/
theorem s_stitched {y ch : Nat} (hW : wfA A) (hA : AbC A vi vl) (hy : y < cN (aCu A)) (hc : ch ≤ 5) (hQ : PC vi vl post (if (if cW (aCu A) y = 1 then decide (ch = 5) else decide (ch < 5)) = true then oStc A y ch else (-4, A))) : CallOk X (d + 6) 0 0 k_S_stitched [.ref 0, .int (nI y), .int (nI ch)] (mk vi vl) post := by
  refine CallOk.intro (by decide +kernel) rfl (Nat.le_of_ble_eq_true rfl) ?_
  have h5 := hW.N5
  refine b_S_stitched_0 ?_
  refine c_C_allows isCl_3 (by omega) ?_
  have ew : vi (3 + 1) y = cW (aCu A) y := (hA.2.1.1.2.2.2.1 y hy).1
  have e6 : decide (nI ch = 6) = false := decide_eq_false (fun q => by have := (nI_6 (by omega)).mp q; omega)
  have e5 : decide (nI ch = 5) = decide (ch = 5) := decide_eq_decide.mpr (nI_5 (by omega))
  have e4 : decide (0 ≤ (nI ch).toInt ∧ (nI ch).toInt < 5) = decide (ch < 5) := by rw [nI_toInt (by omega)]; exact decide_eq_decide.mpr (by omega)
  rw [ew, e6, e5, e4, Bool.false_or]
  by_cases hal : (if cW (aCu A) y = 1 then decide (ch = 5) else decide (ch < 5)) = true
  · rw [if_pos hal] at hQ
    rw [hal]
    unfold oStc at hQ
    have ht : vi 3 7 = nI (cT (aCu A)) := hA.2.1.1.2.2.1
    have h40 : cT (aCu A) ≤ 40 := hW.2.2.1.2.2.1
    by_cases hs : cT (aCu A) < 40
    · rw [if_pos hs] at hQ
      have g : vi 3 7 < 40 := by rw [ht]; exact nI_lt (a := cT (aCu A)) (b := 40) hs (by omega)
      refine b_S_stitched_9 (fun h9 => b_S_stitched_15 (fun h15 => b_S_stitched_30 ?_) (fun h15 => absurd h15 (by first | decide | assumption | omega | simp_all))) (fun h9 => absurd h9 (by first | decide | assumption | omega | simp_all))
      refine c_C_stitch isCl_3 hA.2.1.1.1 hW.N5 hA.2.1.1.2.1 hW.L8 ht hs hy hA.2.1.2 (fun w hw hsw => ?_)
      have hc1 := ClC_stc hA.2.1.1 hy (by omega) hw
      have hwv : wfV (stc (aCu A) y ch) := hW.2.2.1.v
      have o2 : ∀ q, (q < 3 ∨ 40 < q) → w q = vi q := fun q hq => by
        rw [hw q (by omega) (by omega)]; unfold stiM
        rw [chgM_o (by omega) (by omega), up2_n (by omega), up2_n (by omega), up2_n (by omega), up2_n (by omega)]
      refine b_S_stitched_39 ?_
      refine a_brokenLaws isCl_3 hwv hc1.v hsw ?_
      refine b_S_stitched_46 ?_
      have := brb_256 hwv
      refine c_J_bitCount (by omega) ?_
      refine b_S_stitched_49 ?_
      exact hQ _ _ (AbC_cu hA hc1 hsw o2) (smM_of fun q hq => o2 q (by omega))
    · rw [if_neg hs] at hQ
      have g : ¬ vi 3 7 < 40 := by rw [ht]; exact nI_nlt (a := cT (aCu A)) (b := 40) (by omega) (by omega)
      refine b_S_stitched_9 (fun h9 => b_S_stitched_15 (fun h15 => absurd h15 (by first | decide | assumption | omega | simp_all)) (fun h15 => b_S_stitched_27 ?_)) (fun h9 => absurd h9 (by first | decide | assumption | omega | simp_all))
      exact hQ _ _ hA smM_rf
  · rw [if_neg hal] at hQ
    have hal' := Bool.eq_false_iff.mpr hal
    rw [hal']
    refine b_S_stitched_9 (fun h9 => absurd h9 (by first | decide | assumption | omega | simp_all)) (fun h9 => b_S_stitched_12 ?_)
    exact hQ _ _ hA smM_rf
theorem s_sew {y s : Int32} (hW : wfA A) (hA : AbC A vi vl) (hQ : PC vi vl post (oSew A y s)) : CallOk X (d + 7) 0 0 k_S_sew [.ref 0, .int y, .int s] (mk vi vl) post := by
  refine CallOk.intro (by decide +kernel) rfl (Nat.le_of_ble_eq_true rfl) ?_
  unfold oSew at hQ
  refine b_S_sew_0 ?_
  refine c_S_isYear hA.2.1.1.1 hW.N5 (fun hy => ?_) (fun hy => ?_)
  · rw [inB_t hy] at hQ
    have h5' := hW.N5
    obtain ⟨j, hj, rfl⟩ := vp_in_of hy (by omega)
    have cj : (nI j).toNatClampNeg = j := nI_clamp (by omega)
    refine b_S_sew_5 (fun h5 => absurd h5 (by first | decide | assumption | omega | simp_all)) (fun h5 => b_S_sew_8 ?_)
    refine c_S_isScene (fun hs => ?_) (fun hs => ?_)
    · rw [inB_t hs, if_pos ⟨rfl, rfl⟩, cj] at hQ
      obtain ⟨t, ht, rfl⟩ := vp_in_of hs (by omega)
      rw [nI_clamp (by omega)] at hQ
      refine b_S_sew_12 (fun h12 => b_S_sew_17 ?_) (fun h12 => absurd h12 (by first | decide | assumption | omega | simp_all))
      have eo : (if (if cW (aCu A) j = 1 then decide (t = 5) else decide (t < 5)) = true then oStc A j t else (-4, A)) = (if cW (aCu A) j = 1 then (-4, A) else oStc A j t) := by
        by_cases h1 : cW (aCu A) j = 1
        · rw [if_pos h1, if_pos h1, if_neg (by rw [decide_eq_true_iff]; omega)]
        · rw [if_neg h1, if_neg h1, if_pos (decide_eq_true ht)]
      refine s_stitched hW hA hj (by omega) (fun w wl h1 h2 => ?_)
      refine b_S_sew_23 ?_
      rw [eo] at h1 ⊢
      exact hQ _ _ h1 h2
    · rw [inB_f hs, if_neg (fun q => by cases q.2)] at hQ
      refine b_S_sew_12 (fun h12 => absurd h12 (by first | decide | assumption | omega | simp_all)) (fun h12 => b_S_sew_15 ?_)
      exact hQ _ _ hA smM_rf
  · rw [inB_f hy, if_neg (fun q => by cases q.1)] at hQ
    refine b_S_sew_5 (fun h5 => b_S_sew_15 ?_) (fun h5 => absurd h5 (by first | decide | assumption | omega | simp_all))
    exact hQ _ _ hA smM_rf
theorem s_unpick {y : Int32} (hW : wfA A) (hA : AbC A vi vl) (hQ : PC vi vl post (oUnpick A y)) : CallOk X (d + 7) 0 0 k_S_unpick [.ref 0, .int y] (mk vi vl) post := by
  refine CallOk.intro (by decide +kernel) rfl (Nat.le_of_ble_eq_true rfl) ?_
  unfold oUnpick at hQ
  refine b_S_unpick_0 ?_
  refine c_S_isYear hA.2.1.1.1 hW.N5 (fun hy => ?_) (fun hy => ?_)
  · rw [inB_t hy, if_pos rfl] at hQ
    have h5' := hW.N5
    obtain ⟨j, hj, rfl⟩ := vp_in_of hy (by omega)
    have cj : (nI j).toNatClampNeg = j := nI_clamp (by omega)
    rw [cj] at hQ
    refine b_S_unpick_5 (fun h5 => b_S_unpick_10 ?_) (fun h5 => absurd h5 (by first | decide | assumption | omega | simp_all))
    have eo : (if (if cW (aCu A) j = 1 then decide (5 = 5) else decide (5 < 5)) = true then oStc A j 5 else (-4, A)) = (if cW (aCu A) j = 1 then oStc A j 5 else (-4, A)) := by
      by_cases h1 : cW (aCu A) j = 1
      · rw [if_pos h1, if_pos h1]; rfl
      · rw [if_neg h1, if_neg h1]; rfl
    refine s_stitched (ch := 5) hW hA hj (by omega) (fun w wl h1 h2 => ?_)
    refine b_S_unpick_16 ?_
    rw [eo] at h1 ⊢
    exact hQ _ _ h1 h2
  · rw [inB_f hy, if_neg (fun q => by cases q)] at hQ
    refine b_S_unpick_5 (fun h5 => absurd h5 (by first | decide | assumption | omega | simp_all)) (fun h5 => b_S_unpick_8 ?_)
    exact hQ _ _ hA smM_rf
theorem s_undo {m : Int32} (hW : wfA A) (hA : AbC A vi vl) (hQ : PC vi vl post (oUndo A m)) : CallOk X (d + 6) 0 0 k_S_undo [.ref 0, .int m] (mk vi vl) post := by
  refine CallOk.intro (by decide +kernel) rfl (Nat.le_of_ble_eq_true rfl) ?_
  unfold oUndo at hQ
  have ht : vi 3 7 = nI (cT (aCu A)) := hA.2.1.1.2.2.1
  have h40 : cT (aCu A) ≤ 40 := hW.2.2.1.2.2.1
  have h5' := hW.N5
  by_cases hm : vp_in m (cT (aCu A) + 1)
  · rw [inB_t hm, if_pos rfl] at hQ
    obtain ⟨j, hj, rfl⟩ := vp_in_of hm (by omega)
    have cj : (nI j).toNatClampNeg = j := nI_clamp (by omega)
    rw [cj] at hQ
    have g1 : ¬ nI j < 0 := nI_pos (by omega)
    have g2 : nI j ≤ vi 3 7 := by rw [ht]; exact nI_le (by omega) (by omega)
    refine b_S_undo_0 (fun h0 => absurd h0 (by first | decide | assumption | omega | simp_all)) (fun h0 => b_S_undo_4 (fun h4 => b_S_undo_17 ?_) (fun h4 => absurd h4 (by first | decide | assumption | omega | simp_all)))
    refine c_C_unstitch isCl_3 hA.2.1.1.1 h5' hA.2.1.1.2.1 hW.L8 ht h40 (by omega) (fun i hi => ?_) (fun w hw hsw => ?_)
    · obtain ⟨z, hz, e, -⟩ := hA.2.1.1.2.2.2.2.2 i hi
      exact ⟨z, hz, e⟩
    · refine b_S_undo_35 ?_
      rw [ht, nI_sub (by omega)]
      have o2 : ∀ q, (q < 3 ∨ 40 < q) → w q = vi q := fun q hq => by
        rw [hw q (by omega) (by omega), up2_n (by omega), unR_o (by omega) (by omega)]
      by_cases hl : j < cT (aCu A)
      · rw [if_pos hl] at hQ
        exact hQ _ _ (AbC_cu hA (ClC_un h5' hA.2.1.1 hl hw) hsw o2) (smM_of fun q hq => o2 q (by omega))
      · rw [if_neg hl] at hQ
        have hjt : j = cT (aCu A) := by omega
        have hc1 : ClC (aCu A) 3 w := by
          refine ClC_fr hA.2.1.1 (fun q a b => ?_)
          rw [hw q (by omega) (by omega), hjt, Nat.sub_self]
          show up2 vi 3 7 _ q = _
          by_cases hq3 : q = 3
          · subst hq3; rw [up2_s, ← ht]
            funext x
            by_cases hx : x = 7
            · subst hx; rw [vau_s]
            · rw [vau_n hx]
          · rw [up2_n hq3]
        exact hQ _ _ (AbC_cu hA hc1 hsw o2) (smM_of fun q hq => o2 q (by omega))
  · rw [inB_f hm, if_neg (fun q => by cases q)] at hQ
    by_cases g1 : m < 0
    · refine b_S_undo_0 (fun h0 => b_S_undo_15 ?_) (fun h0 => absurd h0 (by first | decide | assumption | omega | simp_all))
      exact hQ _ _ hA smM_rf
    · have g2 : ¬ m ≤ vi 3 7 := by
        intro q
        rw [ht] at q
        obtain ⟨j, hj, rfl⟩ := nI_of2 (n := cT (aCu A)) (nI_toInt (by omega)) g1 q
        exact hm (vp_in_nI (by omega) (by omega))
      refine b_S_undo_0 (fun h0 => absurd h0 (by first | decide | assumption | omega | simp_all)) (fun h0 => b_S_undo_4 (fun h4 => absurd h4 (by first | decide | assumption | omega | simp_all)) (fun h4 => b_S_undo_15 ?_))
      exact hQ _ _ hA smM_rf
theorem s_keep {k : Int32} (hW : wfA A) (hA : AbC A vi vl) (hQ : PC vi vl post (oKeep A k)) : CallOk X (d + 2) 0 0 k_S_keep [.ref 0, .int k] (mk vi vl) post := by
  refine CallOk.intro (by decide +kernel) rfl (Nat.le_of_ble_eq_true rfl) ?_
  unfold oKeep at hQ
  have h5' := hW.N5
  have hn : vi 3 0 = nI (cN (aCu A)) := hA.2.1.1.1
  refine b_S_keep_0 ?_
  refine c_S_isKeptPlace (fun hk => ?_) (fun hk => ?_)
  · rw [inB_t hk, if_pos rfl] at hQ
    obtain ⟨j, hj, rfl⟩ := vp_in_of hk (by decide)
    have cj : (nI j).toNatClampNeg = j := nI_clamp (by omega)
    rw [cj] at hQ
    have q0 : (nI (cN (aCu A)) = 0) ↔ cN (aCu A) = 0 := nI_eq (b := 0) (by omega) (by omega)
    by_cases h0 : cN (aCu A) = 0
    · have g : vi 3 0 = 0 := by rw [hn]; exact q0.mpr h0
      rw [if_pos h0] at hQ
      refine b_S_keep_4 (fun h4 => b_S_keep_9 (fun h9 => absurd h9 (by first | decide | assumption | omega | simp_all)) (fun h9 => b_S_keep_19 ?_)) (fun h4 => absurd h4 (by first | decide | assumption | omega | simp_all))
      exact hQ _ _ hA smM_rf
    · have g : ¬ vi 3 0 = 0 := by rw [hn]; exact fun q => h0 (q0.mp q)
      rw [if_neg h0] at hQ
      refine b_S_keep_4 (fun h4 => b_S_keep_9 (fun h9 => b_S_keep_22 (by first | assumption | decide | (refine vp_in_nI ?_ ?_ <;> omega) | omega | simp_all) ?_) (fun h9 => absurd h9 (by first | decide | assumption | omega | simp_all))) (fun h4 => absurd h4 (by first | decide | assumption | omega | simp_all))
      rw [cj]
      refine c_C_take (kept_i hj) isCl_3 (by omega) (fun w ht => ?_)
      refine b_S_keep_35 ?_
      have e7 : w 3 7 = nI (cT (aCu A)) := by rw [ht.1 3 (by omega)]; exact hA.2.1.1.2.2.1
      rw [e7]
      exact hQ _ _ (AbC_kp hW hA hj (ClC_take hW.2.2.1 hA.2.1.1 ht) (by omega) ht.1) (smM_of fun q hq => ht.1 q (by omega))
  · rw [inB_f hk, if_neg (fun q => by cases q)] at hQ
    refine b_S_keep_4 (fun h4 => absurd h4 (by first | decide | assumption | omega | simp_all)) (fun h4 => b_S_keep_7 ?_)
    exact hQ _ _ hA smM_rf
theorem s_on {k : Int32} (hW : wfA A) (hA : AbC A vi vl) (hQ : PC vi vl post (oOn A k)) : CallOk X (d + 5) 0 0 k_S_on [.ref 0, .int k] (mk vi vl) post := by
  refine CallOk.intro (by decide +kernel) rfl (Nat.le_of_ble_eq_true rfl) ?_
  unfold oOn at hQ
  refine b_S_on_0 ?_
  refine c_S_isKeptPlace (fun hk => ?_) (fun hk => ?_)
  · rw [inB_t hk, if_pos rfl] at hQ
    obtain ⟨j, hj, rfl⟩ := vp_in_of hk (by decide)
    have cj : (nI j).toNatClampNeg = j := nI_clamp (by omega)
    rw [cj] at hQ
    have hkp := hA.2.2.1 j hj
    cases he : aKp A j with
    | none =>
      rw [he] at hkp hQ
      have hkp : vi (62 + 11 * j) 0 = 0 := hkp
      have g : vi (62 + 11 * (nI j).toNatClampNeg) 0 = 0 := by rw [cj]; exact hkp
      refine b_S_on_4 (fun h4 => b_S_on_9 (by first | assumption | decide | (refine vp_in_nI ?_ ?_ <;> omega) | omega | simp_all) (fun h9 => absurd h9 (by first | decide | assumption | omega | simp_all)) (fun h9 => b_S_on_21 ?_)) (fun h4 => absurd h4 (by first | decide | assumption | omega | simp_all))
      refine c_S_refuse 1 (by decide) (by decide) ?_
      refine b_S_on_26 ?_
      exact hQ _ _ (AbC_fd hW.L8 hA (by decide) (by decide)) smM_rfM
    | some c =>
      rw [he] at hkp hQ
      obtain ⟨hwc, hc0⟩ := hW.2.2.2.1 j c hj he
      obtain ⟨hcl, -⟩ := hkp
      have hn5 := hwc.1
      have g : ¬ vi (62 + 11 * (nI j).toNatClampNeg) 0 = 0 := by rw [cj, hcl.1]; exact fun q => by have := (nI_eq (b := 0) (by omega) (by omega)).mp q; omega
      refine b_S_on_4 (fun h4 => b_S_on_9 (by first | assumption | decide | (refine vp_in_nI ?_ ?_ <;> omega) | omega | simp_all) (fun h9 => b_S_on_27 (by first | assumption | decide | (refine vp_in_nI ?_ ?_ <;> omega) | omega | simp_all) ?_) (fun h9 => absurd h9 (by first | decide | assumption | omega | simp_all))) (fun h4 => absurd h4 (by first | decide | assumption | omega | simp_all))
      rw [cj]
      refine c_C_take isCl_3 (kept_i hj) (by omega) (fun w1 ht => ?_)
      have hcl1 := ClC_take hwc hcl ht
      refine b_S_on_40 ?_
      refine a_settleFrom isCl_3 hwc.v hcl1.v (fun w2 h2 hv2 hs2 => ?_)
      have o2 : ∀ q, (q < 3 ∨ 40 < q) → w2 q = vi q := fun q hq => by rw [h2 q (by omega) (by omega), ht.1 q (by omega)]
      have hcl2 := ClC_fr hcl1 (fun q a b => h2 q (by omega) (by omega))
      refine b_S_on_48 ?_
      rw [hcl2.2.2.1]
      exact hQ _ _ (AbC_cu hA hcl2 hs2 o2) (smM_of fun q hq => o2 q (by omega))
  · rw [inB_f hk, if_neg (fun q => by cases q)] at hQ
    refine b_S_on_4 (fun h4 => absurd h4 (by first | decide | assumption | omega | simp_all)) (fun h4 => b_S_on_7 ?_)
    exact hQ _ _ hA smM_rf
end S35
