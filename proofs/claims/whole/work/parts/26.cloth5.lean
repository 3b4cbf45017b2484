/-- what take leaves: the CLOTH c in b -/
def TakeP (vi w : Nat → Nat → Int32) (b c : Nat) : Prop :=
  (∀ i, (i < b ∨ b + 8 < i) → w i = vi i) ∧ w b 0 = vi c 0 ∧ w b 3 = vi c 3 ∧ w b 7 = vi c 7 ∧ (∀ y, y < 5 → w (b + 1) y = vi (c + 1) y ∧ w (b + 2) y = vi (c + 2) y) ∧ (∀ y, y < 8 → w (b + 3) y = vi (c + 3) y ∧ w (b + 4) y = vi (c + 4) y ∧ w (b + 5) y = vi (c + 5) y) ∧ (∀ y, y < 40 → w (b + 6) y = vi (c + 6) y ∧ w (b + 7) y = vi (c + 7) y ∧ w (b + 8) y = vi (c + 8) y)
theorem cl_apart {b c : Nat} (hb : isCl b) (hc : isCl c) (h : b ≠ c) : b + 10 < c ∨ c + 10 < b := by unfold isCl at hb hc; omega
section S26
variable {X : aX} {d : Nat} {vi : Nat → Nat → Int32} {vl : Nat → Nat → Int64} {post : aO}
theorem c_C_take {b c : Nat} (hb : isCl b) (hc : isCl c) (hbc : b ≠ c) (hQ : ∀ w, TakeP vi w b c → post none (mk w vl)) : CallOk X (d + 1) 0 0 k_C_take [.ref b, .ref c] (mk vi vl) post := by
  refine CallOk.intro (by decide +kernel) rfl (Nat.le_of_ble_eq_true rfl) ?_
  have hap := cl_apart hb hc hbc
  refine b_C_take_0 (by first | assumption | decide | (refine vp_in_nI ?_ ?_ <;> omega) | omega | simp_all) (by first | assumption | decide | (refine vp_in_nI ?_ ?_ <;> omega) | omega | simp_all) (fun w0 hw0 => b_C_take_8 (by first | assumption | decide | (refine vp_in_nI ?_ ?_ <;> omega) | omega | simp_all) (by first | assumption | decide | (refine vp_in_nI ?_ ?_ <;> omega) | omega | simp_all) (fun w8 hw8 => b_C_take_22 (by first | assumption | decide | (refine vp_in_nI ?_ ?_ <;> omega) | omega | simp_all) (by first | assumption | decide | (refine vp_in_nI ?_ ?_ <;> omega) | omega | simp_all) (fun w22 hw22 => b_C_take_36 (by first | assumption | decide | (refine vp_in_nI ?_ ?_ <;> omega) | omega | simp_all) (by first | assumption | decide | (refine vp_in_nI ?_ ?_ <;> omega) | omega | simp_all) (fun w36 hw36 => b_C_take_44 (by first | assumption | decide | (refine vp_in_nI ?_ ?_ <;> omega) | omega | simp_all) (by first | assumption | decide | (refine vp_in_nI ?_ ?_ <;> omega) | omega | simp_all) (fun w44 hw44 => b_C_take_59 (by first | assumption | decide | (refine vp_in_nI ?_ ?_ <;> omega) | omega | simp_all) (by first | assumption | decide | (refine vp_in_nI ?_ ?_ <;> omega) | omega | simp_all) (fun w59 hw59 => b_C_take_74 (by first | assumption | decide | (refine vp_in_nI ?_ ?_ <;> omega) | omega | simp_all) (by first | assumption | decide | (refine vp_in_nI ?_ ?_ <;> omega) | omega | simp_all) (fun w74 hw74 => b_C_take_89 (by first | assumption | decide | (refine vp_in_nI ?_ ?_ <;> omega) | omega | simp_all) (by first | assumption | decide | (refine vp_in_nI ?_ ?_ <;> omega) | omega | simp_all) (fun w89 hw89 => b_C_take_97 (by first | assumption | decide | (refine vp_in_nI ?_ ?_ <;> omega) | omega | simp_all) (by first | assumption | decide | (refine vp_in_nI ?_ ?_ <;> omega) | omega | simp_all) (fun w97 hw97 => b_C_take_112 (by first | assumption | decide | (refine vp_in_nI ?_ ?_ <;> omega) | omega | simp_all) (by first | assumption | decide | (refine vp_in_nI ?_ ?_ <;> omega) | omega | simp_all) (fun w112 hw112 => b_C_take_127 (by first | assumption | decide | (refine vp_in_nI ?_ ?_ <;> omega) | omega | simp_all) (by first | assumption | decide | (refine vp_in_nI ?_ ?_ <;> omega) | omega | simp_all) (fun w127 hw127 => b_C_take_142 ?_)))))))))))
  have f0 : ∀ i, i ≠ b → w0 i = vi i := fun i h => by rw [hw0, up2_n h]
  have g0 : ∀ j, w0 b j = if j = 0 then vi c 0 else vi b j := fun j => by rw [hw0, up2_s]; rfl
  have f8 : ∀ i, i ≠ b + 1 → w8 i = w0 i := fun i h => by rw [hw8, up1_n h]
  have g8 : ∀ j, j < 5 → w8 (b + 1) j = w0 (c + 1) j := fun j h => by rw [hw8, up1_s]; simp [va_cpy, h]
  have f22 : ∀ i, i ≠ b + 2 → w22 i = w8 i := fun i h => by rw [hw22, up1_n h]
  have g22 : ∀ j, j < 5 → w22 (b + 2) j = w8 (c + 2) j := fun j h => by rw [hw22, up1_s]; simp [va_cpy, h]
  have f36 : ∀ i, i ≠ b → w36 i = w22 i := fun i h => by rw [hw36, up2_n h]
  have g36 : ∀ j, w36 b j = if j = 3 then w22 c 3 else w22 b j := fun j => by rw [hw36, up2_s]; rfl
  have f44 : ∀ i, i ≠ b + 3 → w44 i = w36 i := fun i h => by rw [hw44, up1_n h]
  have g44 : ∀ j, j < 8 → w44 (b + 3) j = w36 (c + 3) j := fun j h => by rw [hw44, up1_s]; simp [va_cpy, h]
  have f59 : ∀ i, i ≠ b + 4 → w59 i = w44 i := fun i h => by rw [hw59, up1_n h]
  have g59 : ∀ j, j < 8 → w59 (b + 4) j = w44 (c + 4) j := fun j h => by rw [hw59, up1_s]; simp [va_cpy, h]
  have f74 : ∀ i, i ≠ b + 5 → w74 i = w59 i := fun i h => by rw [hw74, up1_n h]
  have g74 : ∀ j, j < 8 → w74 (b + 5) j = w59 (c + 5) j := fun j h => by rw [hw74, up1_s]; simp [va_cpy, h]
  have f89 : ∀ i, i ≠ b → w89 i = w74 i := fun i h => by rw [hw89, up2_n h]
  have g89 : ∀ j, w89 b j = if j = 7 then w74 c 7 else w74 b j := fun j => by rw [hw89, up2_s]; rfl
  have f97 : ∀ i, i ≠ b + 6 → w97 i = w89 i := fun i h => by rw [hw97, up1_n h]
  have g97 : ∀ j, j < 40 → w97 (b + 6) j = w89 (c + 6) j := fun j h => by rw [hw97, up1_s]; simp [va_cpy, h]
  have f112 : ∀ i, i ≠ b + 7 → w112 i = w97 i := fun i h => by rw [hw112, up1_n h]
  have g112 : ∀ j, j < 40 → w112 (b + 7) j = w97 (c + 7) j := fun j h => by rw [hw112, up1_s]; simp [va_cpy, h]
  have f127 : ∀ i, i ≠ b + 8 → w127 i = w112 i := fun i h => by rw [hw127, up1_n h]
  have g127 : ∀ j, j < 40 → w127 (b + 8) j = w112 (c + 8) j := fun j h => by rw [hw127, up1_s]; simp [va_cpy, h]
  refine hQ w127 ⟨fun i hi => ?_, ?_, ?_, ?_, ?_, ?_, ?_⟩
  · rw [f127 (i) (by omega), f112 (i) (by omega), f97 (i) (by omega), f89 (i) (by omega), f74 (i) (by omega), f59 (i) (by omega), f44 (i) (by omega), f36 (i) (by omega), f22 (i) (by omega), f8 (i) (by omega), f0 (i) (by omega)]
  · rw [f127 b (by omega), f112 b (by omega), f97 b (by omega), g89, if_neg (by decide), f74 b (by omega), f59 b (by omega), f44 b (by omega), g36, if_neg (by decide), f22 b (by omega), f8 b (by omega), g0, if_pos rfl]
  · rw [f127 b (by omega), f112 b (by omega), f97 b (by omega), g89, if_neg (by decide), f74 b (by omega), f59 b (by omega), f44 b (by omega), g36, if_pos rfl, f22 c (by omega), f8 c (by omega), f0 c (by omega)]
  · rw [f127 b (by omega), f112 b (by omega), f97 b (by omega), g89, if_pos rfl, f74 c (by omega), f59 c (by omega), f44 c (by omega), f36 c (by omega), f22 c (by omega), f8 c (by omega), f0 c (by omega)]
  · exact fun y hy => ⟨by rw [f127 (b + 1) (by omega), f112 (b + 1) (by omega), f97 (b + 1) (by omega), f89 (b + 1) (by omega), f74 (b + 1) (by omega), f59 (b + 1) (by omega), f44 (b + 1) (by omega), f36 (b + 1) (by omega), f22 (b + 1) (by omega), g8 y hy, f0 (c + 1) (by omega)], by rw [f127 (b + 2) (by omega), f112 (b + 2) (by omega), f97 (b + 2) (by omega), f89 (b + 2) (by omega), f74 (b + 2) (by omega), f59 (b + 2) (by omega), f44 (b + 2) (by omega), f36 (b + 2) (by omega), g22 y hy, f8 (c + 2) (by omega), f0 (c + 2) (by omega)]⟩
  · exact fun y hy => ⟨by rw [f127 (b + 3) (by omega), f112 (b + 3) (by omega), f97 (b + 3) (by omega), f89 (b + 3) (by omega), f74 (b + 3) (by omega), f59 (b + 3) (by omega), g44 y hy, f36 (c + 3) (by omega), f22 (c + 3) (by omega), f8 (c + 3) (by omega), f0 (c + 3) (by omega)], by rw [f127 (b + 4) (by omega), f112 (b + 4) (by omega), f97 (b + 4) (by omega), f89 (b + 4) (by omega), f74 (b + 4) (by omega), g59 y hy, f44 (c + 4) (by omega), f36 (c + 4) (by omega), f22 (c + 4) (by omega), f8 (c + 4) (by omega), f0 (c + 4) (by omega)], by rw [f127 (b + 5) (by omega), f112 (b + 5) (by omega), f97 (b + 5) (by omega), f89 (b + 5) (by omega), g74 y hy, f59 (c + 5) (by omega), f44 (c + 5) (by omega), f36 (c + 5) (by omega), f22 (c + 5) (by omega), f8 (c + 5) (by omega), f0 (c + 5) (by omega)]⟩
  · exact fun y hy => ⟨by rw [f127 (b + 6) (by omega), f112 (b + 6) (by omega), g97 y hy, f89 (c + 6) (by omega), f74 (c + 6) (by omega), f59 (c + 6) (by omega), f44 (c + 6) (by omega), f36 (c + 6) (by omega), f22 (c + 6) (by omega), f8 (c + 6) (by omega), f0 (c + 6) (by omega)], by rw [f127 (b + 7) (by omega), g112 y hy, f97 (c + 7) (by omega), f89 (c + 7) (by omega), f74 (c + 7) (by omega), f59 (c + 7) (by omega), f44 (c + 7) (by omega), f36 (c + 7) (by omega), f22 (c + 7) (by omega), f8 (c + 7) (by omega), f0 (c + 7) (by omega)], by rw [g127 y hy, f112 (c + 8) (by omega), f97 (c + 8) (by omega), f89 (c + 8) (by omega), f74 (c + 8) (by omega), f59 (c + 8) (by omega), f44 (c + 8) (by omega), f36 (c + 8) (by omega), f22 (c + 8) (by omega), f8 (c + 8) (by omega), f0 (c + 8) (by omega)]⟩
def ayM (vi : Nat → Nat → Int32) (b n : Nat) (s : Int32) : Nat → Nat → Int32 := up2 (setM vi b n (if s = -9 then 0 else 1) s) b 0 (nI (n + 1))
theorem c_C_addYear {b n : Nat} {s : Int32} (hb : isCl b) (hn : vi b 0 = nI n) (hn5 : n < 5) (hQ : post none (mk (ayM vi b n s) vl)) : CallOk X (d + 2) 0 0 k_C_addYear [.ref b, .int s] (mk vi vl) post := by
  refine CallOk.intro (by decide +kernel) rfl (Nat.le_of_ble_eq_true rfl) ?_
  have e1 : ¬ (5 : Int32) ≤ vi b 0 := by rw [hn]; exact nI_ge (a := n) (b := 5) hn5 (by omega)
  have e2 : ∀ w0 : Int32, setM vi b n w0 s b 0 = nI n := fun w0 => by unfold setM; rw [up2_n (show b ≠ b + 2 by omega), up2_n (show b ≠ b + 1 by omega)]; exact hn
  unfold ayM at hQ
  refine b_C_addYear_0 (by first | assumption | decide | (refine vp_in_nI ?_ ?_ <;> omega) | omega | simp_all) (fun h0 => absurd h0 (by first | decide | assumption | omega | simp_all)) (fun h0 => b_C_addYear_8 (by first | assumption | decide | (refine vp_in_nI ?_ ?_ <;> omega) | omega | simp_all) (fun h8 => b_C_addYear_23 (b_C_addYear_24 ?_ (by first | assumption | decide | (refine vp_in_nI ?_ ?_ <;> omega) | omega | simp_all))) (fun h8 => b_C_addYear_19 (b_C_addYear_24 ?_ (by first | assumption | decide | (refine vp_in_nI ?_ ?_ <;> omega) | omega | simp_all))))
  · rw [hn]
    refine c_C_set hb hn5 ?_
    refine b_C_addYear_28 (by first | assumption | decide | (refine vp_in_nI ?_ ?_ <;> omega) | omega | simp_all) (fun w28 hw28 => b_C_addYear_38 ?_)
    rw [hw28, e2, nI_1]
    rw [if_neg h8] at hQ
    exact hQ
  · rw [hn]
    refine c_C_set hb hn5 ?_
    refine b_C_addYear_28 (by first | assumption | decide | (refine vp_in_nI ?_ ?_ <;> omega) | omega | simp_all) (fun w28 hw28 => b_C_addYear_38 ?_)
    rw [hw28, e2, nI_1]
    rw [if_pos h8] at hQ
    exact hQ
def alM (vi : Nat → Nat → Int32) (b L : Nat) (k c e : Int32) : Nat → Nat → Int32 := up2 (up2 (up2 (up2 vi (b + 3) L k) (b + 4) L c) (b + 5) L e) b 3 (nI (L + 1))
theorem c_C_addLaw {b L : Nat} {k c e : Int32} (hb : isCl b) (hL : vi b 3 = nI L) (hL8 : L < 8) (hQ : post none (mk (alM vi b L k c e) vl)) : CallOk X (d + 1) 0 0 k_C_addLaw [.ref b, .int k, .int c, .int e] (mk vi vl) post := by
  refine CallOk.intro (by decide +kernel) rfl (Nat.le_of_ble_eq_true rfl) ?_
  have e1 : ¬ (8 : Int32) ≤ vi b 3 := by rw [hL]; exact nI_ge (a := L) (b := 8) hL8 (by omega)
  have cL : (nI L).toNatClampNeg = L := nI_clamp (by omega)
  have vL : vp_in (nI L) 8 := vp_in_nI hL8 (by omega)
  have v0 : vp_in (vi b 3) 8 := by rw [hL]; exact vL
  refine b_C_addLaw_0 (by first | assumption | decide | (refine vp_in_nI ?_ ?_ <;> omega) | omega | simp_all) (fun h0 => ?_) (fun h0 => ?_)
  · exact absurd h0 e1
  refine b_C_addLaw_9 (by first | assumption | decide | (refine vp_in_nI ?_ ?_ <;> omega) | omega | simp_all) (by first | assumption | decide | (refine vp_in_nI ?_ ?_ <;> omega) | omega | simp_all) (fun w9 hw9 => ?_)
  rw [hL, cL] at hw9
  have g9 : w9 b 3 = nI L := by rw [hw9, up2_n (show b ≠ b + 3 by omega)]; exact hL
  have v9 : vp_in (w9 b 3) 8 := by rw [g9]; exact vL
  refine b_C_addLaw_19 (by first | assumption | decide | (refine vp_in_nI ?_ ?_ <;> omega) | omega | simp_all) (by first | assumption | decide | (refine vp_in_nI ?_ ?_ <;> omega) | omega | simp_all) (fun w19 hw19 => ?_)
  rw [g9, cL] at hw19
  have g19 : w19 b 3 = nI L := by rw [hw19, up2_n (show b ≠ b + 4 by omega)]; exact g9
  have v19 : vp_in (w19 b 3) 8 := by rw [g19]; exact vL
  refine b_C_addLaw_29 (by first | assumption | decide | (refine vp_in_nI ?_ ?_ <;> omega) | omega | simp_all) (by first | assumption | decide | (refine vp_in_nI ?_ ?_ <;> omega) | omega | simp_all) (fun w29 hw29 => ?_)
  rw [g19, cL] at hw29
  have g29 : w29 b 3 = nI L := by rw [hw29, up2_n (show b ≠ b + 5 by omega)]; exact g19
  refine b_C_addLaw_39 (by first | assumption | decide | (refine vp_in_nI ?_ ?_ <;> omega) | omega | simp_all) (fun w39 hw39 => b_C_addLaw_49 ?_)
  rw [g29, nI_1] at hw39
  rw [hw39, hw29, hw19, hw9]
  exact hQ
/-- a STITCH: before settling -/
def stiM (vi : Nat → Nat → Int32) (b s y : Nat) (c : Int32) : Nat → Nat → Int32 :=
  chgM (up2 (up2 (up2 (up2 vi (b + 6) s (nI y)) (b + 7) s (vi (b + 1) y)) (b + 8) s (vi (b + 2) y)) b 7 (nI (s + 1))) b y c
theorem chgM_o {vi : Nat → Nat → Int32} {b y j : Nat} {c : Int32} (h1 : j ≠ b + 1) (h2 : j ≠ b + 2) : chgM vi b y c j = vi j := by
  unfold chgM setM
  by_cases h5 : c = 5
  · rw [if_pos h5, up2_n h1]
  · rw [if_neg h5]
    by_cases h6 : c = 6
    · rw [if_pos h6]
    · rw [if_neg h6, up2_n h2, up2_n h1]
theorem chgM_1 {vi : Nat → Nat → Int32} {b y z : Nat} {c : Int32} (h : z ≠ y) : chgM vi b y c (b + 1) z = vi (b + 1) z := by
  unfold chgM setM
  by_cases h5 : c = 5
  · rw [if_pos h5, up2_s, vau_n h]
  · rw [if_neg h5]
    by_cases h6 : c = 6
    · rw [if_pos h6]
    · rw [if_neg h6, up2_n (show b + 1 ≠ b + 2 by omega), up2_s, vau_n h]
theorem chgM_2 {vi : Nat → Nat → Int32} {b y z : Nat} {c : Int32} (h : z ≠ y) : chgM vi b y c (b + 2) z = vi (b + 2) z := by
  unfold chgM setM
  by_cases h5 : c = 5
  · rw [if_pos h5, up2_n (show b + 2 ≠ b + 1 by omega)]
  · rw [if_neg h5]
    by_cases h6 : c = 6
    · rw [if_pos h6]
    · rw [if_neg h6, up2_s, vau_n h, up2_n (show b + 2 ≠ b + 1 by omega)]
theorem c_C_stitch {b n L s y : Nat} {c : Int32} (hb : isCl b) (hn : vi b 0 = nI n) (hn5 : n ≤ 5) (hL : vi b 3 = nI L) (hL8 : L ≤ 8) (hst : vi b 7 = nI s) (hs : s < 40) (hy : y < n) (hse : setl vi b L n) (hQ : ∀ w, (∀ j, j ≠ b + 9 → j ≠ b + 10 → w j = stiM vi b s y c j) → setl w b L n → post none (mk w vl)) : CallOk X (d + 5) 0 0 k_C_stitch [.ref b, .int (nI y), .int c] (mk vi vl) post := by
  refine CallOk.intro (by decide +kernel) rfl (Nat.le_of_ble_eq_true rfl) ?_
  have e1 : vi b 7 < 40 := by rw [hst]; exact nI_lt (a := s) (b := 40) hs (by omega)
  have cs : (nI s).toNatClampNeg = s := nI_clamp (by omega)
  have cy : (nI y).toNatClampNeg = y := nI_clamp (by omega)
  have vs : vp_in (nI s) 40 := vp_in_nI hs (by omega)
  have vy : vp_in (nI y) 5 := vp_in_nI (by omega) (by omega)
  have v0 : vp_in (vi b 7) 40 := by rw [hst]; exact vs
  refine b_C_stitch_0 (by first | assumption | decide | (refine vp_in_nI ?_ ?_ <;> omega) | omega | simp_all) (fun h0 => ?_) (fun h0 => absurd h0 (by first | decide | assumption | omega | simp_all))
  refine b_C_stitch_10 (by first | assumption | decide | (refine vp_in_nI ?_ ?_ <;> omega) | omega | simp_all) (by first | assumption | decide | (refine vp_in_nI ?_ ?_ <;> omega) | omega | simp_all) (fun w10 hw10 => ?_)
  rw [hst, cs] at hw10
  have g10 : w10 b 7 = nI s := by rw [hw10, up2_n (show b ≠ b + 6 by omega)]; exact hst
  have v10 : vp_in (w10 b 7) 40 := by rw [g10]; exact vs
  refine b_C_stitch_20 (by first | assumption | decide | (refine vp_in_nI ?_ ?_ <;> omega) | omega | simp_all) (by first | assumption | decide | (refine vp_in_nI ?_ ?_ <;> omega) | omega | simp_all) (by first | assumption | decide | (refine vp_in_nI ?_ ?_ <;> omega) | omega | simp_all) (fun w20 hw20 => ?_)
  rw [g10, cs, cy] at hw20
  have g20 : w20 b 7 = nI s := by rw [hw20, up2_n (show b ≠ b + 7 by omega)]; exact g10
  have v20 : vp_in (w20 b 7) 40 := by rw [g20]; exact vs
  refine b_C_stitch_35 (by first | assumption | decide | (refine vp_in_nI ?_ ?_ <;> omega) | omega | simp_all) (by first | assumption | decide | (refine vp_in_nI ?_ ?_ <;> omega) | omega | simp_all) (by first | assumption | decide | (refine vp_in_nI ?_ ?_ <;> omega) | omega | simp_all) (fun w35 hw35 => ?_)
  rw [g20, cs, cy] at hw35
  have g35 : w35 b 7 = nI s := by rw [hw35, up2_n (show b ≠ b + 8 by omega)]; exact g20
  refine b_C_stitch_50 (by first | assumption | decide | (refine vp_in_nI ?_ ?_ <;> omega) | omega | simp_all) (fun w50 hw50 => b_C_stitch_60 ?_ (by first | assumption | decide | (refine vp_in_nI ?_ ?_ <;> omega) | omega | simp_all))
  rw [g35, nI_1] at hw50
  have a1 : w10 (b + 1) = vi (b + 1) := by rw [hw10, up2_n (by omega)]
  have a2 : w20 (b + 2) = vi (b + 2) := by rw [hw20, up2_n (by omega), hw10, up2_n (by omega)]
  have e50 : w50 = up2 (up2 (up2 (up2 vi (b + 6) s (nI y)) (b + 7) s (vi (b + 1) y)) (b + 8) s (vi (b + 2) y)) b 7 (nI (s + 1)) := by rw [hw50, hw35, a2, hw20, a1, hw10]
  refine c_C_change hb (by omega) ?_
  refine b_C_stitch_66 ?_ (by first | assumption | decide | (refine vp_in_nI ?_ ?_ <;> omega) | omega | simp_all)
  have o : ∀ j, j ≠ 0 → j ≠ 6 → j ≠ 7 → j ≠ 8 → w50 (b + j) = vi (b + j) := fun j h0 h6 h7 h8 => by rw [e50, up2_n (by omega), up2_n (by omega), up2_n (by omega), up2_n (by omega)]
  have ob : ∀ j, j ≠ 7 → w50 b j = vi b j := fun j h7 => by rw [e50, up2_s, vau_n h7, up2_n (by omega), up2_n (by omega), up2_n (by omega)]
  have cb : ∀ j, chgM w50 b y c b j = w50 b j := fun j => by rw [chgM_o (by omega) (by omega)]
  have hset : setl (chgM w50 b y c) b L y := by
    refine setl_cg hL8 (setl_mono hse (by omega)) ?_ ?_ ?_ ?_ ?_ ?_ ?_
    · intro z hz; rw [chgM_1 (by omega), o 1 (by decide) (by decide) (by decide) (by decide)]
    · intro z hz; rw [chgM_2 (by omega), o 2 (by decide) (by decide) (by decide) (by decide)]
    · intro z hz; rw [chgM_o (by omega) (by omega), o 3 (by decide) (by decide) (by decide) (by decide)]
    · intro z hz; rw [chgM_o (by omega) (by omega), o 4 (by decide) (by decide) (by decide) (by decide)]
    · intro z hz; rw [chgM_o (by omega) (by omega), o 5 (by decide) (by decide) (by decide) (by decide)]
    · intro z hz; rw [chgM_o (by omega) (by omega), o 9 (by decide) (by decide) (by decide) (by decide)]
    · intro z hz; rw [chgM_o (by omega) (by omega), o 10 (by decide) (by decide) (by decide) (by decide)]
  refine c_C_settleFrom hb (by rw [cb, ob 0 (by decide)]; exact hn) hn5 (by rw [cb, ob 3 (by decide)]; exact hL) hL8 (by omega) hset (fun w hw hsw => ?_)
  refine b_C_stitch_71 ?_
  refine hQ w (fun j h9 h10 => ?_) hsw
  rw [hw j h9 h10, e50]; rfl
/-- STITCHES from m on undone, the last first -/
def unR (vi : Nat → Nat → Int32) (b m : Nat) : Nat → Nat → Nat → Int32
  | 0 => vi
  | t + 1 => unR (setM vi b (vi (b + 6) (m + t)).toNatClampNeg (vi (b + 7) (m + t)) (vi (b + 8) (m + t))) b m t
theorem unR_o {b m j : Nat} (h1 : j ≠ b + 1) (h2 : j ≠ b + 2) : ∀ (t : Nat) (vi : Nat → Nat → Int32), unR vi b m t j = vi j
  | 0, _ => rfl
  | t + 1, vi => by
    show unR (setM vi b _ _ _) b m t j = vi j
    rw [unR_o h1 h2 t]
    unfold setM
    rw [up2_n h2, up2_n h1]
theorem c_C_unstitch {b n L s m : Nat} (hb : isCl b) (hn : vi b 0 = nI n) (hn5 : n ≤ 5) (hL : vi b 3 = nI L) (hL8 : L ≤ 8) (hst : vi b 7 = nI s) (hs : s ≤ 40) (hm : m ≤ s) (hyr : ∀ i, i < s → ∃ y, y < n ∧ vi (b + 6) i = nI y) (hQ : ∀ w, (∀ j, j ≠ b + 9 → j ≠ b + 10 → w j = up2 (unR vi b m (s - m)) b 7 (nI m) j) → setl w b L n → post none (mk w vl)) : CallOk X (d + 5) 0 0 k_C_unstitch [.ref b, .int (nI m)] (mk vi vl) post := by
  refine CallOk.intro (by decide +kernel) rfl (Nat.le_of_ble_eq_true rfl) ?_
  refine b_C_unstitch_0 (by first | assumption | decide | (refine vp_in_nI ?_ ?_ <;> omega) | omega | simp_all) ?_
  rw [hst]
  have key : ∀ (t : Nat) (w : Nat → Nat → Int32), m + t ≤ s → (∀ j, j ≠ b + 1 → j ≠ b + 2 → w j = vi j) → unR w b m t = unR vi b m (s - m) → wp X (d + 5) k_C_unstitch 0 0 7 [some (.ref b), some (.int (nI m)), some (.int (nI (m + t) - 1))] [] (mk w vl) post := by
    intro t
    induction t with
    | zero =>
      intro w hms ho hu
      have e1 : nI (m + 0) - 1 < nI m := by
        rcases m with _ | m
        · decide
        · rw [show m + 1 + 0 = m + 1 from rfl, nI_pred]; exact nI_lt (by omega) (by omega)
      refine b_C_unstitch_7 (fun h7 => b_C_unstitch_40 (by first | assumption | decide | (refine vp_in_nI ?_ ?_ <;> omega) | omega | simp_all) (fun w40 hw40 => b_C_unstitch_45 ?_ (by first | assumption | decide | (refine vp_in_nI ?_ ?_ <;> omega) | omega | simp_all))) (fun h7 => absurd h7 (by first | decide | assumption | omega | simp_all))
      have ow : w40 b 0 = nI n := by rw [hw40, up2_s, vau_n (by decide), ho b (by omega) (by omega)]; exact hn
      have oL : w40 b 3 = nI L := by rw [hw40, up2_s, vau_n (by decide), ho b (by omega) (by omega)]; exact hL
      refine c_C_settleFrom (i := 0) hb ow hn5 oL hL8 (Nat.zero_le _) (fun y hy => absurd hy (by omega)) (fun w' hw' hsw => ?_)
      refine b_C_unstitch_50 ?_
      refine hQ w' (fun j h9 h10 => ?_) hsw
      rw [hw' j h9 h10, hw40, ← hu]; rfl
    | succ t ih =>
      intro w hms ho hu
      have e0 : nI (m + (t + 1)) - 1 = nI (m + t) := nI_pred (m + t)
      rw [e0]
      have e1 : ¬ nI (m + t) < nI m := nI_nlt (by omega) (by omega)
      have v1 : vp_in (nI (m + t)) 40 := vp_in_nI (by omega) (by omega)
      have c1 : (nI (m + t)).toNatClampNeg = m + t := nI_clamp (by omega)
      obtain ⟨y, hy, ey⟩ := hyr (m + t) (by omega)
      have ey' : w (b + 6) (m + t) = nI y := by rw [ho (b + 6) (by omega) (by omega)]; exact ey
      refine b_C_unstitch_7 (fun h7 => absurd h7 (by first | decide | assumption | omega | simp_all)) (fun h7 => b_C_unstitch_12 (by first | assumption | decide | (refine vp_in_nI ?_ ?_ <;> omega) | omega | simp_all) (by first | assumption | decide | (refine vp_in_nI ?_ ?_ <;> omega) | omega | simp_all) (by first | assumption | decide | (refine vp_in_nI ?_ ?_ <;> omega) | omega | simp_all) (by first | assumption | decide | (refine vp_in_nI ?_ ?_ <;> omega) | omega | simp_all) ?_)
      rw [c1, ey']
      refine c_C_set hb (by omega) ?_
      refine b_C_unstitch_34 ?_
      rw [show nI (m + t) + -1 = nI (m + t) - 1 by rw [Int32.sub_eq_add_neg]]
      refine ih _ (by omega) (fun j h1 h2 => ?_) ?_
      · unfold setM; rw [up2_n h2, up2_n h1]; exact ho j h1 h2
      · rw [← hu]
        show _ = unR (setM w b _ _ _) b m t
        rw [ey', nI_clamp (by omega)]
  have := key (s - m) vi (by omega) (fun _ _ _ => rfl) rfl
  rw [show m + (s - m) = s by omega] at this
  exact this
end S26
