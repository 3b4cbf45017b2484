theorem b_R_begin_0 {X : aX} {d : Nat} {post : aO} {vi : Nat → Nat → Int32} {vl : Nat → Nat → Int64} {v0 : Nat} {x1 x2 : Int32} (hv0 : isRw v0) (k1 : ∀ w, w = up2 vi v0 1 (if (0 : Int32) < (if (Int32.ofNat (rl v0)) < x1 then (Int32.ofNat (rl v0)) else x1) then (if (Int32.ofNat (rl v0)) < x1 then (Int32.ofNat (rl v0)) else x1) else (0 : Int32)) → wp X (d + 1) k_R_begin 0 0 17 [some (.ref v0), some (.int x1), some (.int x2)] [] (mk w vl) post) : wp X (d + 1) k_R_begin 0 0 0 [some (.ref v0), some (.int x1), some (.int x2)] [] (mk vi vl) post :=
  wr_aload_n (q := 0) (by decide +kernel) rfl rfl <|
  wr_iconst (n := 0) (v := (0 : Int32)) (by decide +kernel) (by decide) <|
  wr_iload_n (q := 1) (by decide +kernel) rfl rfl <|
  wr_aload_n (q := 0) (by decide +kernel) rfl rfl <|
  wr_getR2 (b := v0 + 1) (ci := 2) (k0 := 0) (idx := 19) (rw_lt0 hv0) (rw_s0 hv0) (by decide) (by decide) lf_R_19 rfl (rw_v0 hv0) (rw_lt1 hv0) (by decide +kernel) <|
  wr_alen (rw_lt1 hv0) (rw_s1 hv0) (by decide +kernel) <|
  wr_mmin (idx := 23) lm2_R_23 (Nat.le_of_ble_eq_true rfl) (by decide +kernel) <|
  wr_mmax (idx := 13) lm2_R_13 (Nat.le_of_ble_eq_true rfl) (by decide +kernel) <|
  wr_putI (ci := 2) (k0 := 1) (idx := 9) (rw_lt0 hv0) (rw_s0 hv0) (by decide) (by decide) lf_R_9 rfl (by decide +kernel) <|
  k1 _ rfl
theorem b_R_begin_17 {X : aX} {d : Nat} {post : aO} {vi : Nat → Nat → Int32} {vl : Nat → Nat → Int64} {v0 : Nat} {x1 x2 : Int32} (hv0 : isRw v0) (k1 : CallOk X d 0 0 k_J_fill [.ref (v0 + 1), .int x2] (mk vi vl) (fun r N' => wp X (d + 1) k_R_begin 0 0 25 [some (.ref v0), some (.int x1), some (.int x2)] (pR r []) N' post)) : wp X (d + 1) k_R_begin 0 0 17 [some (.ref v0), some (.int x1), some (.int x2)] [] (mk vi vl) post :=
  wr_aload_n (q := 0) (by decide +kernel) rfl rfl <|
  wr_getR2 (b := v0 + 1) (ci := 2) (k0 := 0) (idx := 19) (rw_lt0 hv0) (rw_s0 hv0) (by decide) (by decide) lf_R_19 rfl (rw_v0 hv0) (rw_lt1 hv0) (by decide +kernel) <|
  wr_iload_n (q := 2) (by decide +kernel) rfl rfl <|
  wr_invS (mid2 := 11) (idx := 26) (b1 := 0) (b2 := 0) (c1 := 0) (c2 := 0) (as := [.ref (v0 + 1), .int x2]) (st := []) pl_11 rfl (Nat.le_of_ble_eq_true rfl) rfl rfl lm_R_26 it_11 (by decide +kernel) k1
theorem b_R_begin_25 {X : aX} {d : Nat} {post : aO} {vi : Nat → Nat → Int32} {vl : Nat → Nat → Int64} {v0 : Nat} {x1 x2 : Int32} (k1 : post none (mk vi vl)) : wp X (d + 1) k_R_begin 0 0 25 [some (.ref v0), some (.int x1), some (.int x2)] [] (mk vi vl) post :=
  wr_ret (r := none) (Or.inl ⟨rfl, (by decide +kernel), rfl⟩) k1
theorem b_J_fill_0 {X : aX} {d : Nat} {post : aO} {vi : Nat → Nat → Int32} {vl : Nat → Nat → Int64} {v0 v0n : Nat} {x1 : Int32} (hav0 : v0 < 107) (hsv0 : sh0 v0 = (0, v0n)) (k1 : wp X (d + 1) k_J_fill 0 0 5 [some (.ref v0), some (.int x1), some (.int (0 : Int32)), some (.int (Int32.ofNat v0n))] [] (mk vi vl) post) : wp X (d + 1) k_J_fill 0 0 0 [some (.ref v0), some (.int x1), none, none] [] (mk vi vl) post :=
  wr_iconst (n := 0) (v := (0 : Int32)) (by decide +kernel) (by decide) <|
  wr_istore_n (q := 2) (by decide +kernel) rfl (by decide) <|
  wr_aload_n (q := 0) (by decide +kernel) rfl rfl <|
  wr_alen hav0 hsv0 (by decide +kernel) <|
  wr_istore_n (q := 3) (by decide +kernel) rfl (by decide) <|
  k1
theorem b_J_fill_5 {X : aX} {d : Nat} {post : aO} {vi : Nat → Nat → Int32} {vl : Nat → Nat → Int64} {v0 : Nat} {x1 x2 x3 : Int32} (k1 : x3 ≤ x2 → wp X (d + 1) k_J_fill 0 0 20 [some (.ref v0), some (.int x1), some (.int x2), some (.int x3)] [] (mk vi vl) post) (k2 : ¬ x3 ≤ x2 → wp X (d + 1) k_J_fill 0 0 10 [some (.ref v0), some (.int x1), some (.int x2), some (.int x3)] [] (mk vi vl) post) : wp X (d + 1) k_J_fill 0 0 5 [some (.ref v0), some (.int x1), some (.int x2), some (.int x3)] [] (mk vi vl) post :=
  wr_iload_n (q := 2) (by decide +kernel) rfl rfl <|
  wr_iload_n (q := 3) (by decide +kernel) rfl rfl <|
  wr_icmp_ge (off := 13) (t := 20) (by decide +kernel) (by decide) k1 k2
theorem b_J_fill_10 {X : aX} {d : Nat} {post : aO} {vi : Nat → Nat → Int32} {vl : Nat → Nat → Int64} {v0 v0n : Nat} {x1 x2 x3 : Int32} (hav0 : v0 < 107) (hsv0 : sh0 v0 = (0, v0n)) (q1 : vp_in x2 v0n) (k1 : ∀ w, w = up2 vi v0 x2.toNatClampNeg x1 → wp X (d + 1) k_J_fill 0 0 14 [some (.ref v0), some (.int x1), some (.int x2), some (.int x3)] [] (mk w vl) post) : wp X (d + 1) k_J_fill 0 0 10 [some (.ref v0), some (.int x1), some (.int x2), some (.int x3)] [] (mk vi vl) post :=
  wr_aload_n (q := 0) (by decide +kernel) rfl rfl <|
  wr_iload_n (q := 2) (by decide +kernel) rfl rfl <|
  wr_iload_n (q := 1) (by decide +kernel) rfl rfl <|
  wr_iast hav0 hsv0 q1 (by decide +kernel) <|
  k1 _ rfl
theorem b_J_fill_14 {X : aX} {d : Nat} {post : aO} {vi : Nat → Nat → Int32} {vl : Nat → Nat → Int64} {v0 : Nat} {x1 x2 x3 : Int32} (k1 : wp X (d + 1) k_J_fill 0 0 5 [some (.ref v0), some (.int x1), some (.int (x2 + (1 : Int32))), some (.int x3)] [] (mk vi vl) post) : wp X (d + 1) k_J_fill 0 0 14 [some (.ref v0), some (.int x1), some (.int x2), some (.int x3)] [] (mk vi vl) post :=
  wr_iinc (i := 2) (n := 1) (v := (1 : Int32)) (by decide +kernel) rfl (by decide) (by decide) <|
  wr_goto (off := -12) (t := 5) (by decide +kernel) (by decide) k1
theorem b_J_fill_20 {X : aX} {d : Nat} {post : aO} {vi : Nat → Nat → Int32} {vl : Nat → Nat → Int64} {v0 : Nat} {x1 x2 x3 : Int32} (k1 : post none (mk vi vl)) : wp X (d + 1) k_J_fill 0 0 20 [some (.ref v0), some (.int x1), some (.int x2), some (.int x3)] [] (mk vi vl) post :=
  wr_ret (r := none) (Or.inl ⟨rfl, (by decide +kernel), rfl⟩) k1
theorem b_R_isMissing_0 {X : aX} {d : Nat} {post : aO} {vi : Nat → Nat → Int32} {vl : Nat → Nat → Int64} {v0 : Nat} (hv0 : isRw v0) (k1 : ¬ (vi v0 1) = (-1 : Int32) → wp X (d + 1) k_R_isMissing 0 0 12 [some (.ref v0)] [] (mk vi vl) post) (k2 : (vi v0 1) = (-1 : Int32) → wp X (d + 1) k_R_isMissing 0 0 8 [some (.ref v0)] [] (mk vi vl) post) : wp X (d + 1) k_R_isMissing 0 0 0 [some (.ref v0)] [] (mk vi vl) post :=
  wr_aload_n (q := 0) (by decide +kernel) rfl rfl <|
  wr_getI (ci := 2) (k0 := 1) (idx := 9) (rw_lt0 hv0) (rw_s0 hv0) (by decide) (by decide) lf_R_9 (Or.inl rfl) (by decide +kernel) <|
  wr_iconst (n := -1) (v := (-1 : Int32)) (by decide +kernel) (by decide) <|
  wr_icmp_ne (off := 7) (t := 12) (by decide +kernel) (by decide) k1 k2
theorem b_R_isMissing_8 {X : aX} {d : Nat} {post : aO} {vi : Nat → Nat → Int32} {vl : Nat → Nat → Int64} {v0 : Nat} (k1 : wp X (d + 1) k_R_isMissing 0 0 13 [some (.ref v0)] [.int (1 : Int32)] (mk vi vl) post) : wp X (d + 1) k_R_isMissing 0 0 8 [some (.ref v0)] [] (mk vi vl) post :=
  wr_iconst (n := 1) (v := (1 : Int32)) (by decide +kernel) (by decide) <|
  wr_goto (off := 4) (t := 13) (by decide +kernel) (by decide) k1
theorem b_R_isMissing_12 {X : aX} {d : Nat} {post : aO} {vi : Nat → Nat → Int32} {vl : Nat → Nat → Int64} {v0 : Nat} (k1 : wp X (d + 1) k_R_isMissing 0 0 13 [some (.ref v0)] [.int (0 : Int32)] (mk vi vl) post) : wp X (d + 1) k_R_isMissing 0 0 12 [some (.ref v0)] [] (mk vi vl) post :=
  wr_iconst (n := 0) (v := (0 : Int32)) (by decide +kernel) (by decide) <|
  k1
theorem b_R_isMissing_13 {X : aX} {d : Nat} {post : aO} {vi : Nat → Nat → Int32} {vl : Nat → Nat → Int64} {v0 : Nat} {y0 : Int32} (q1 : y0 = 0 ∨ y0 = 1) (k1 : post (some (.int y0)) (mk vi vl)) : wp X (d + 1) k_R_isMissing 0 0 13 [some (.ref v0)] [.int y0] (mk vi vl) post :=
  wr_ret (r := some (.int y0)) (Or.inr (Or.inl ⟨_, rfl, (by decide +kernel), (Or.inr ⟨rfl, q1⟩)⟩)) k1
theorem b_R_has_0 {X : aX} {d : Nat} {post : aO} {vi : Nat → Nat → Int32} {vl : Nat → Nat → Int64} {v0 : Nat} {x1 : Int32} (k1 : x1 < 0 → wp X (d + 1) k_R_has 0 0 16 [some (.ref v0), some (.int x1)] [] (mk vi vl) post) (k2 : ¬ x1 < 0 → wp X (d + 1) k_R_has 0 0 4 [some (.ref v0), some (.int x1)] [] (mk vi vl) post) : wp X (d + 1) k_R_has 0 0 0 [some (.ref v0), some (.int x1)] [] (mk vi vl) post :=
  wr_iload_n (q := 1) (by decide +kernel) rfl rfl <|
  wr_if_lt (off := 15) (t := 16) (by decide +kernel) (by decide) k1 k2
theorem b_R_has_4 {X : aX} {d : Nat} {post : aO} {vi : Nat → Nat → Int32} {vl : Nat → Nat → Int64} {v0 : Nat} {x1 : Int32} (hv0 : isRw v0) (k1 : (vi v0 1) ≤ x1 → wp X (d + 1) k_R_has 0 0 16 [some (.ref v0), some (.int x1)] [] (mk vi vl) post) (k2 : ¬ (vi v0 1) ≤ x1 → wp X (d + 1) k_R_has 0 0 12 [some (.ref v0), some (.int x1)] [] (mk vi vl) post) : wp X (d + 1) k_R_has 0 0 4 [some (.ref v0), some (.int x1)] [] (mk vi vl) post :=
  wr_iload_n (q := 1) (by decide +kernel) rfl rfl <|
  wr_aload_n (q := 0) (by decide +kernel) rfl rfl <|
  wr_getI (ci := 2) (k0 := 1) (idx := 9) (rw_lt0 hv0) (rw_s0 hv0) (by decide) (by decide) lf_R_9 (Or.inl rfl) (by decide +kernel) <|
  wr_icmp_ge (off := 7) (t := 16) (by decide +kernel) (by decide) k1 k2
theorem b_R_has_12 {X : aX} {d : Nat} {post : aO} {vi : Nat → Nat → Int32} {vl : Nat → Nat → Int64} {v0 : Nat} {x1 : Int32} (k1 : wp X (d + 1) k_R_has 0 0 17 [some (.ref v0), some (.int x1)] [.int (1 : Int32)] (mk vi vl) post) : wp X (d + 1) k_R_has 0 0 12 [some (.ref v0), some (.int x1)] [] (mk vi vl) post :=
  wr_iconst (n := 1) (v := (1 : Int32)) (by decide +kernel) (by decide) <|
  wr_goto (off := 4) (t := 17) (by decide +kernel) (by decide) k1
theorem b_R_has_16 {X : aX} {d : Nat} {post : aO} {vi : Nat → Nat → Int32} {vl : Nat → Nat → Int64} {v0 : Nat} {x1 : Int32} (k1 : wp X (d + 1) k_R_has 0 0 17 [some (.ref v0), some (.int x1)] [.int (0 : Int32)] (mk vi vl) post) : wp X (d + 1) k_R_has 0 0 16 [some (.ref v0), some (.int x1)] [] (mk vi vl) post :=
  wr_iconst (n := 0) (v := (0 : Int32)) (by decide +kernel) (by decide) <|
  k1
theorem b_R_has_17 {X : aX} {d : Nat} {post : aO} {vi : Nat → Nat → Int32} {vl : Nat → Nat → Int64} {v0 : Nat} {x1 y0 : Int32} (q1 : y0 = 0 ∨ y0 = 1) (k1 : post (some (.int y0)) (mk vi vl)) : wp X (d + 1) k_R_has 0 0 17 [some (.ref v0), some (.int x1)] [.int y0] (mk vi vl) post :=
  wr_ret (r := some (.int y0)) (Or.inr (Or.inl ⟨_, rfl, (by decide +kernel), (Or.inr ⟨rfl, q1⟩)⟩)) k1
theorem b_R_remove_0 {X : aX} {d : Nat} {post : aO} {vi : Nat → Nat → Int32} {vl : Nat → Nat → Int64} {v0 : Nat} (hv0 : isRw v0) (k1 : ∀ w, w = up2 vi v0 1 (-1 : Int32) → wp X (d + 1) k_R_remove 0 0 5 [some (.ref v0)] [] (mk w vl) post) : wp X (d + 1) k_R_remove 0 0 0 [some (.ref v0)] [] (mk vi vl) post :=
  wr_aload_n (q := 0) (by decide +kernel) rfl rfl <|
  wr_iconst (n := -1) (v := (-1 : Int32)) (by decide +kernel) (by decide) <|
  wr_putI (ci := 2) (k0 := 1) (idx := 9) (rw_lt0 hv0) (rw_s0 hv0) (by decide) (by decide) lf_R_9 rfl (by decide +kernel) <|
  k1 _ rfl
theorem b_R_remove_5 {X : aX} {d : Nat} {post : aO} {vi : Nat → Nat → Int32} {vl : Nat → Nat → Int64} {v0 : Nat} (k1 : post none (mk vi vl)) : wp X (d + 1) k_R_remove 0 0 5 [some (.ref v0)] [] (mk vi vl) post :=
  wr_ret (r := none) (Or.inl ⟨rfl, (by decide +kernel), rfl⟩) k1
theorem b_R_hasSpan_0 {X : aX} {d : Nat} {post : aO} {vi : Nat → Nat → Int32} {vl : Nat → Nat → Int64} {v0 : Nat} {x1 x2 : Int32} (k1 : x1 < 0 → wp X (d + 1) k_R_hasSpan 0 0 30 [some (.ref v0), some (.int x1), some (.int x2)] [] (mk vi vl) post) (k2 : ¬ x1 < 0 → wp X (d + 1) k_R_hasSpan 0 0 4 [some (.ref v0), some (.int x1), some (.int x2)] [] (mk vi vl) post) : wp X (d + 1) k_R_hasSpan 0 0 0 [some (.ref v0), some (.int x1), some (.int x2)] [] (mk vi vl) post :=
  wr_iload_n (q := 1) (by decide +kernel) rfl rfl <|
  wr_if_lt (off := 29) (t := 30) (by decide +kernel) (by decide) k1 k2
theorem b_R_hasSpan_4 {X : aX} {d : Nat} {post : aO} {vi : Nat → Nat → Int32} {vl : Nat → Nat → Int64} {v0 : Nat} {x1 x2 : Int32} (k1 : x2 < 0 → wp X (d + 1) k_R_hasSpan 0 0 30 [some (.ref v0), some (.int x1), some (.int x2)] [] (mk vi vl) post) (k2 : ¬ x2 < 0 → wp X (d + 1) k_R_hasSpan 0 0 8 [some (.ref v0), some (.int x1), some (.int x2)] [] (mk vi vl) post) : wp X (d + 1) k_R_hasSpan 0 0 4 [some (.ref v0), some (.int x1), some (.int x2)] [] (mk vi vl) post :=
  wr_iload_n (q := 2) (by decide +kernel) rfl rfl <|
  wr_if_lt (off := 25) (t := 30) (by decide +kernel) (by decide) k1 k2
theorem b_R_hasSpan_8 {X : aX} {d : Nat} {post : aO} {vi : Nat → Nat → Int32} {vl : Nat → Nat → Int64} {v0 : Nat} {x1 x2 : Int32} (hv0 : isRw v0) (k1 : (vi v0 1) < x2 → wp X (d + 1) k_R_hasSpan 0 0 30 [some (.ref v0), some (.int x1), some (.int x2)] [] (mk vi vl) post) (k2 : ¬ (vi v0 1) < x2 → wp X (d + 1) k_R_hasSpan 0 0 16 [some (.ref v0), some (.int x1), some (.int x2)] [] (mk vi vl) post) : wp X (d + 1) k_R_hasSpan 0 0 8 [some (.ref v0), some (.int x1), some (.int x2)] [] (mk vi vl) post :=
  wr_iload_n (q := 2) (by decide +kernel) rfl rfl <|
  wr_aload_n (q := 0) (by decide +kernel) rfl rfl <|
  wr_getI (ci := 2) (k0 := 1) (idx := 9) (rw_lt0 hv0) (rw_s0 hv0) (by decide) (by decide) lf_R_9 (Or.inl rfl) (by decide +kernel) <|
  wr_icmp_gt (off := 17) (t := 30) (by decide +kernel) (by decide) k1 k2
theorem b_R_hasSpan_16 {X : aX} {d : Nat} {post : aO} {vi : Nat → Nat → Int32} {vl : Nat → Nat → Int64} {v0 : Nat} {x1 x2 : Int32} (hv0 : isRw v0) (k1 : ((vi v0 1) - x2) < x1 → wp X (d + 1) k_R_hasSpan 0 0 30 [some (.ref v0), some (.int x1), some (.int x2)] [] (mk vi vl) post) (k2 : ¬ ((vi v0 1) - x2) < x1 → wp X (d + 1) k_R_hasSpan 0 0 26 [some (.ref v0), some (.int x1), some (.int x2)] [] (mk vi vl) post) : wp X (d + 1) k_R_hasSpan 0 0 16 [some (.ref v0), some (.int x1), some (.int x2)] [] (mk vi vl) post :=
  wr_iload_n (q := 1) (by decide +kernel) rfl rfl <|
  wr_aload_n (q := 0) (by decide +kernel) rfl rfl <|
  wr_getI (ci := 2) (k0 := 1) (idx := 9) (rw_lt0 hv0) (rw_s0 hv0) (by decide) (by decide) lf_R_9 (Or.inl rfl) (by decide +kernel) <|
  wr_iload_n (q := 2) (by decide +kernel) rfl rfl <|
  wr_isub (by decide +kernel) <|
  wr_icmp_gt (off := 7) (t := 30) (by decide +kernel) (by decide) k1 k2
theorem b_R_hasSpan_26 {X : aX} {d : Nat} {post : aO} {vi : Nat → Nat → Int32} {vl : Nat → Nat → Int64} {v0 : Nat} {x1 x2 : Int32} (k1 : wp X (d + 1) k_R_hasSpan 0 0 31 [some (.ref v0), some (.int x1), some (.int x2)] [.int (1 : Int32)] (mk vi vl) post) : wp X (d + 1) k_R_hasSpan 0 0 26 [some (.ref v0), some (.int x1), some (.int x2)] [] (mk vi vl) post :=
  wr_iconst (n := 1) (v := (1 : Int32)) (by decide +kernel) (by decide) <|
  wr_goto (off := 4) (t := 31) (by decide +kernel) (by decide) k1
theorem b_R_hasSpan_30 {X : aX} {d : Nat} {post : aO} {vi : Nat → Nat → Int32} {vl : Nat → Nat → Int64} {v0 : Nat} {x1 x2 : Int32} (k1 : wp X (d + 1) k_R_hasSpan 0 0 31 [some (.ref v0), some (.int x1), some (.int x2)] [.int (0 : Int32)] (mk vi vl) post) : wp X (d + 1) k_R_hasSpan 0 0 30 [some (.ref v0), some (.int x1), some (.int x2)] [] (mk vi vl) post :=
  wr_iconst (n := 0) (v := (0 : Int32)) (by decide +kernel) (by decide) <|
  k1
theorem b_R_hasSpan_31 {X : aX} {d : Nat} {post : aO} {vi : Nat → Nat → Int32} {vl : Nat → Nat → Int64} {v0 : Nat} {x1 x2 y0 : Int32} (q1 : y0 = 0 ∨ y0 = 1) (k1 : post (some (.int y0)) (mk vi vl)) : wp X (d + 1) k_R_hasSpan 0 0 31 [some (.ref v0), some (.int x1), some (.int x2)] [.int y0] (mk vi vl) post :=
  wr_ret (r := some (.int y0)) (Or.inr (Or.inl ⟨_, rfl, (by decide +kernel), (Or.inr ⟨rfl, q1⟩)⟩)) k1
theorem b_D_read_0 {X : aX} {d : Nat} {post : aO} {vi : Nat → Nat → Int32} {vl : Nat → Nat → Int64} {v0 v1 : Nat} (k1 : CallOk X d 0 0 k_C_clear [.ref v1] (mk vi vl) (fun r N' => wp X (d + 1) k_D_read 0 0 4 [some (.ref v0), some (.ref v1), none, none, none] (pR r []) N' post)) (hv1 : isCl v1) : wp X (d + 1) k_D_read 0 0 0 [some (.ref v0), some (.ref v1), none, none, none] [] (mk vi vl) post :=
  wr_aload_n (q := 1) (by decide +kernel) rfl rfl <|
  wr_invV (a := v1) (ci := 0) (mid2 := 27) (idx := 9) (b1 := 0) (b2 := 0) (c1 := 0) (c2 := 0) (as := []) (st := []) pl_27 rfl (Nat.le_of_ble_eq_true rfl) rfl rfl (cl_lt0 hv1) (cl_s0 hv1) (by decide) rfl lm_D_9 im_27 is_27 (by decide +kernel) k1
theorem b_D_read_4 {X : aX} {d : Nat} {post : aO} {vi : Nat → Nat → Int32} {vl : Nat → Nat → Int64} {v0 v1 : Nat} {o2 o3 o4 : Option Value} (k1 : CallOk X d 0 0 k_D_pastBlanks [.ref v0, .int (0 : Int32)] (mk vi vl) (fun r N' => wp X (d + 1) k_D_read 0 0 9 [some (.ref v0), some (.ref v1), o2, o3, o4] (pR r []) N' post)) : wp X (d + 1) k_D_read 0 0 4 [some (.ref v0), some (.ref v1), o2, o3, o4] [] (mk vi vl) post :=
  wr_aload_n (q := 0) (by decide +kernel) rfl rfl <|
  wr_iconst (n := 0) (v := (0 : Int32)) (by decide +kernel) (by decide) <|
  wr_invS (mid2 := 28) (idx := 14) (b1 := 0) (b2 := 0) (c1 := 0) (c2 := 0) (as := [.ref v0, .int (0 : Int32)]) (st := []) pl_28 rfl (Nat.le_of_ble_eq_true rfl) rfl rfl lm_D_14 it_28 (by decide +kernel) k1
theorem b_D_read_9 {X : aX} {d : Nat} {post : aO} {vi : Nat → Nat → Int32} {vl : Nat → Nat → Int64} {v0 v1 : Nat} {o2 o3 o4 : Option Value} {y0 : Int32} (k1 : CallOk X d 0 0 k_D_signAt [.ref v0, .int y0] (mk vi vl) (fun r N' => wp X (d + 1) k_D_read 0 0 15 [some (.ref v0), some (.ref v1), some (.int y0), o3, o4] (pR r []) N' post)) : wp X (d + 1) k_D_read 0 0 9 [some (.ref v0), some (.ref v1), o2, o3, o4] [.int y0] (mk vi vl) post :=
  wr_istore_n (q := 2) (by decide +kernel) rfl (by decide) <|
  wr_aload_n (q := 0) (by decide +kernel) rfl rfl <|
  wr_iload_n (q := 2) (by decide +kernel) rfl rfl <|
  wr_invS (mid2 := 29) (idx := 20) (b1 := 0) (b2 := 0) (c1 := 0) (c2 := 0) (as := [.ref v0, .int y0]) (st := []) pl_29 rfl (Nat.le_of_ble_eq_true rfl) rfl rfl lm_D_20 it_29 (by decide +kernel) k1
theorem b_D_read_15 {X : aX} {d : Nat} {post : aO} {vi : Nat → Nat → Int32} {vl : Nat → Nat → Int64} {v0 v1 : Nat} {x2 y0 : Int32} {o3 o4 : Option Value} (k1 : y0 = (121 : Int32) → wp X (d + 1) k_D_read 0 0 22 [some (.ref v0), some (.ref v1), some (.int x2), o3, o4] [] (mk vi vl) post) (k2 : ¬ y0 = (121 : Int32) → wp X (d + 1) k_D_read 0 0 20 [some (.ref v0), some (.ref v1), some (.int x2), o3, o4] [] (mk vi vl) post) : wp X (d + 1) k_D_read 0 0 15 [some (.ref v0), some (.ref v1), some (.int x2), o3, o4] [.int y0] (mk vi vl) post :=
  wr_bipush (n := 121) (v := (121 : Int32)) (by decide +kernel) (by decide) <|
  wr_icmp_eq (off := 5) (t := 22) (by decide +kernel) (by decide) k1 k2
theorem b_D_read_20 {X : aX} {d : Nat} {post : aO} {vi : Nat → Nat → Int32} {vl : Nat → Nat → Int64} {v0 v1 : Nat} {x2 : Int32} {o3 o4 : Option Value} (k1 : post (some (.int x2)) (mk vi vl)) : wp X (d + 1) k_D_read 0 0 20 [some (.ref v0), some (.ref v1), some (.int x2), o3, o4] [] (mk vi vl) post :=
  wr_iload_n (q := 2) (by decide +kernel) rfl rfl <|
  wr_ret (r := some (.int x2)) (Or.inr (Or.inl ⟨_, rfl, (by decide +kernel), (Or.inl rfl)⟩)) k1
theorem b_D_read_22 {X : aX} {d : Nat} {post : aO} {vi : Nat → Nat → Int32} {vl : Nat → Nat → Int64} {v0 v1 : Nat} {x2 : Int32} {o3 o4 : Option Value} (k1 : wp X (d + 1) k_D_read 0 0 27 [some (.ref v0), some (.ref v1), some (.int (x2 + (1 : Int32))), some (.int (0 : Int32)), o4] [] (mk vi vl) post) : wp X (d + 1) k_D_read 0 0 22 [some (.ref v0), some (.ref v1), some (.int x2), o3, o4] [] (mk vi vl) post :=
  wr_iinc (i := 2) (n := 1) (v := (1 : Int32)) (by decide +kernel) rfl (by decide) (by decide) <|
  wr_iconst (n := 0) (v := (0 : Int32)) (by decide +kernel) (by decide) <|
  wr_istore_n (q := 3) (by decide +kernel) rfl (by decide) <|
  k1
theorem b_D_read_27 {X : aX} {d : Nat} {post : aO} {vi : Nat → Nat → Int32} {vl : Nat → Nat → Int64} {v0 v1 : Nat} {x2 x3 : Int32} {o4 : Option Value} (k1 : (5 : Int32) ≤ x3 → wp X (d + 1) k_D_read 0 0 80 [some (.ref v0), some (.ref v1), some (.int x2), some (.int x3), o4] [] (mk vi vl) post) (k2 : ¬ (5 : Int32) ≤ x3 → wp X (d + 1) k_D_read 0 0 32 [some (.ref v0), some (.ref v1), some (.int x2), some (.int x3), o4] [] (mk vi vl) post) : wp X (d + 1) k_D_read 0 0 27 [some (.ref v0), some (.ref v1), some (.int x2), some (.int x3), o4] [] (mk vi vl) post :=
  wr_iload_n (q := 3) (by decide +kernel) rfl rfl <|
  wr_iconst (n := 5) (v := (5 : Int32)) (by decide +kernel) (by decide) <|
  wr_icmp_ge (off := 51) (t := 80) (by decide +kernel) (by decide) k1 k2
theorem b_D_read_32 {X : aX} {d : Nat} {post : aO} {vi : Nat → Nat → Int32} {vl : Nat → Nat → Int64} {v0 v1 : Nat} {x2 x3 : Int32} {o4 : Option Value} (k1 : CallOk X d 0 0 k_D_signAt [.ref v0, .int x2] (mk vi vl) (fun r N' => wp X (d + 1) k_D_read 0 0 37 [some (.ref v0), some (.ref v1), some (.int x2), some (.int x3), o4] (pR r []) N' post)) : wp X (d + 1) k_D_read 0 0 32 [some (.ref v0), some (.ref v1), some (.int x2), some (.int x3), o4] [] (mk vi vl) post :=
  wr_aload_n (q := 0) (by decide +kernel) rfl rfl <|
  wr_iload_n (q := 2) (by decide +kernel) rfl rfl <|
  wr_invS (mid2 := 29) (idx := 20) (b1 := 0) (b2 := 0) (c1 := 0) (c2 := 0) (as := [.ref v0, .int x2]) (st := []) pl_29 rfl (Nat.le_of_ble_eq_true rfl) rfl rfl lm_D_20 it_29 (by decide +kernel) k1
theorem b_D_read_37 {X : aX} {d : Nat} {post : aO} {vi : Nat → Nat → Int32} {vl : Nat → Nat → Int64} {v0 v1 : Nat} {x2 x3 y0 : Int32} {o4 : Option Value} (k1 : CallOk X d 0 0 k_D_isYearSign [.int y0] (mk vi vl) (fun r N' => wp X (d + 1) k_D_read 0 0 40 [some (.ref v0), some (.ref v1), some (.int x2), some (.int x3), o4] (pR r []) N' post)) : wp X (d + 1) k_D_read 0 0 37 [some (.ref v0), some (.ref v1), some (.int x2), some (.int x3), o4] [.int y0] (mk vi vl) post :=
  wr_invS (mid2 := 30) (idx := 23) (b1 := 0) (b2 := 0) (c1 := 0) (c2 := 0) (as := [.int y0]) (st := []) pl_30 rfl (Nat.le_of_ble_eq_true rfl) rfl rfl lm_D_23 it_30 (by decide +kernel) k1
theorem b_D_read_40 {X : aX} {d : Nat} {post : aO} {vi : Nat → Nat → Int32} {vl : Nat → Nat → Int64} {v0 v1 : Nat} {x2 x3 y0 : Int32} {o4 : Option Value} (k1 : y0 = 0 → wp X (d + 1) k_D_read 0 0 80 [some (.ref v0), some (.ref v1), some (.int x2), some (.int x3), o4] [] (mk vi vl) post) (k2 : ¬ y0 = 0 → wp X (d + 1) k_D_read 0 0 43 [some (.ref v0), some (.ref v1), some (.int x2), some (.int x3), o4] [] (mk vi vl) post) : wp X (d + 1) k_D_read 0 0 40 [some (.ref v0), some (.ref v1), some (.int x2), some (.int x3), o4] [.int y0] (mk vi vl) post :=
  wr_if_eq (off := 40) (t := 80) (by decide +kernel) (by decide) k1 k2
theorem b_D_read_43 {X : aX} {d : Nat} {post : aO} {vi : Nat → Nat → Int32} {vl : Nat → Nat → Int64} {v0 v1 : Nat} {x2 x3 : Int32} {o4 : Option Value} (k1 : CallOk X d 0 0 k_D_signAt [.ref v0, .int x2] (mk vi vl) (fun r N' => wp X (d + 1) k_D_read 0 0 48 [some (.ref v0), some (.ref v1), some (.int x2), some (.int x3), o4] (pR r []) N' post)) : wp X (d + 1) k_D_read 0 0 43 [some (.ref v0), some (.ref v1), some (.int x2), some (.int x3), o4] [] (mk vi vl) post :=
  wr_aload_n (q := 0) (by decide +kernel) rfl rfl <|
  wr_iload_n (q := 2) (by decide +kernel) rfl rfl <|
  wr_invS (mid2 := 29) (idx := 20) (b1 := 0) (b2 := 0) (c1 := 0) (c2 := 0) (as := [.ref v0, .int x2]) (st := []) pl_29 rfl (Nat.le_of_ble_eq_true rfl) rfl rfl lm_D_20 it_29 (by decide +kernel) k1
theorem b_D_read_48 {X : aX} {d : Nat} {post : aO} {vi : Nat → Nat → Int32} {vl : Nat → Nat → Int64} {v0 v1 : Nat} {x2 x3 y0 : Int32} {o4 : Option Value} (k1 : ¬ y0 = (45 : Int32) → wp X (d + 1) k_D_read 0 0 63 [some (.ref v0), some (.ref v1), some (.int x2), some (.int x3), some (.int y0)] [.ref v1] (mk vi vl) post) (k2 : y0 = (45 : Int32) → wp X (d + 1) k_D_read 0 0 58 [some (.ref v0), some (.ref v1), some (.int x2), some (.int x3), some (.int y0)] [.ref v1] (mk vi vl) post) : wp X (d + 1) k_D_read 0 0 48 [some (.ref v0), some (.ref v1), some (.int x2), some (.int x3), o4] [.int y0] (mk vi vl) post :=
  wr_istore (i := 4) (by decide +kernel) (by decide) <|
  wr_aload_n (q := 1) (by decide +kernel) rfl rfl <|
  wr_iload (i := 4) (by decide +kernel) rfl <|
  wr_bipush (n := 45) (v := (45 : Int32)) (by decide +kernel) (by decide) <|
  wr_icmp_ne (off := 8) (t := 63) (by decide +kernel) (by decide) k1 k2
theorem b_D_read_58 {X : aX} {d : Nat} {post : aO} {vi : Nat → Nat → Int32} {vl : Nat → Nat → Int64} {v0 v1 : Nat} {x2 x3 x4 : Int32} (k1 : wp X (d + 1) k_D_read 0 0 68 [some (.ref v0), some (.ref v1), some (.int x2), some (.int x3), some (.int x4)] [.int (-9 : Int32), .ref v1] (mk vi vl) post) : wp X (d + 1) k_D_read 0 0 58 [some (.ref v0), some (.ref v1), some (.int x2), some (.int x3), some (.int x4)] [.ref v1] (mk vi vl) post :=
  wr_bipush (n := -9) (v := (-9 : Int32)) (by decide +kernel) (by decide) <|
  wr_goto (off := 8) (t := 68) (by decide +kernel) (by decide) k1
theorem b_D_read_63 {X : aX} {d : Nat} {post : aO} {vi : Nat → Nat → Int32} {vl : Nat → Nat → Int64} {v0 v1 : Nat} {x2 x3 x4 : Int32} (k1 : wp X (d + 1) k_D_read 0 0 68 [some (.ref v0), some (.ref v1), some (.int x2), some (.int x3), some (.int x4)] [.int (x4 - (48 : Int32)), .ref v1] (mk vi vl) post) : wp X (d + 1) k_D_read 0 0 63 [some (.ref v0), some (.ref v1), some (.int x2), some (.int x3), some (.int x4)] [.ref v1] (mk vi vl) post :=
  wr_iload (i := 4) (by decide +kernel) rfl <|
  wr_bipush (n := 48) (v := (48 : Int32)) (by decide +kernel) (by decide) <|
  wr_isub (by decide +kernel) <|
  k1
theorem b_D_read_68 {X : aX} {d : Nat} {post : aO} {vi : Nat → Nat → Int32} {vl : Nat → Nat → Int64} {v0 v1 : Nat} {x2 x3 x4 y1 : Int32} (k1 : CallOk X d 0 0 k_C_addYear [.ref v1, .int y1] (mk vi vl) (fun r N' => wp X (d + 1) k_D_read 0 0 71 [some (.ref v0), some (.ref v1), some (.int x2), some (.int x3), some (.int x4)] (pR r []) N' post)) (hv1 : isCl v1) : wp X (d + 1) k_D_read 0 0 68 [some (.ref v0), some (.ref v1), some (.int x2), some (.int x3), some (.int x4)] [.int y1, .ref v1] (mk vi vl) post :=
  wr_invV (a := v1) (ci := 0) (mid2 := 32) (idx := 27) (b1 := 0) (b2 := 0) (c1 := 0) (c2 := 0) (as := [.int y1]) (st := []) pl_32 rfl (Nat.le_of_ble_eq_true rfl) rfl rfl (cl_lt0 hv1) (cl_s0 hv1) (by decide) rfl lm_D_27 im_32 is_32 (by decide +kernel) k1
theorem b_D_read_71 {X : aX} {d : Nat} {post : aO} {vi : Nat → Nat → Int32} {vl : Nat → Nat → Int64} {v0 v1 : Nat} {x2 x3 x4 : Int32} (k1 : wp X (d + 1) k_D_read 0 0 27 [some (.ref v0), some (.ref v1), some (.int (x2 + (1 : Int32))), some (.int (x3 + (1 : Int32))), some (.int x4)] [] (mk vi vl) post) : wp X (d + 1) k_D_read 0 0 71 [some (.ref v0), some (.ref v1), some (.int x2), some (.int x3), some (.int x4)] [] (mk vi vl) post :=
  wr_iinc (i := 2) (n := 1) (v := (1 : Int32)) (by decide +kernel) rfl (by decide) (by decide) <|
  wr_iinc (i := 3) (n := 1) (v := (1 : Int32)) (by decide +kernel) rfl (by decide) (by decide) <|
  wr_goto (off := -50) (t := 27) (by decide +kernel) (by decide) k1
theorem b_D_read_80 {X : aX} {d : Nat} {post : aO} {vi : Nat → Nat → Int32} {vl : Nat → Nat → Int64} {v0 v1 : Nat} {x2 x3 : Int32} {o4 : Option Value} (hv1 : isCl v1) (k1 : (2 : Int32) ≤ (vi v1 0) → wp X (d + 1) k_D_read 0 0 90 [some (.ref v0), some (.ref v1), some (.int x2), some (.int x3), o4] [] (mk vi vl) post) (k2 : ¬ (2 : Int32) ≤ (vi v1 0) → wp X (d + 1) k_D_read 0 0 88 [some (.ref v0), some (.ref v1), some (.int x2), some (.int x3), o4] [] (mk vi vl) post) : wp X (d + 1) k_D_read 0 0 80 [some (.ref v0), some (.ref v1), some (.int x2), some (.int x3), o4] [] (mk vi vl) post :=
  wr_aload_n (q := 1) (by decide +kernel) rfl rfl <|
  wr_getI (ci := 0) (k0 := 0) (idx := 31) (cl_lt0 hv1) (cl_s0 hv1) (by decide) (by decide) lf_D_31 (Or.inl rfl) (by decide +kernel) <|
  wr_iconst (n := 2) (v := (2 : Int32)) (by decide +kernel) (by decide) <|
  wr_icmp_ge (off := 5) (t := 90) (by decide +kernel) (by decide) k1 k2
theorem b_D_read_88 {X : aX} {d : Nat} {post : aO} {vi : Nat → Nat → Int32} {vl : Nat → Nat → Int64} {v0 v1 : Nat} {x2 x3 : Int32} {o4 : Option Value} (k1 : post (some (.int x2)) (mk vi vl)) : wp X (d + 1) k_D_read 0 0 88 [some (.ref v0), some (.ref v1), some (.int x2), some (.int x3), o4] [] (mk vi vl) post :=
  wr_iload_n (q := 2) (by decide +kernel) rfl rfl <|
  wr_ret (r := some (.int x2)) (Or.inr (Or.inl ⟨_, rfl, (by decide +kernel), (Or.inl rfl)⟩)) k1
theorem b_D_read_90 {X : aX} {d : Nat} {post : aO} {vi : Nat → Nat → Int32} {vl : Nat → Nat → Int64} {v0 v1 : Nat} {x2 x3 : Int32} {o4 : Option Value} (k1 : CallOk X d 0 0 k_D_readLaws [.ref v0, .int x2, .ref v1] (mk vi vl) (fun r N' => wp X (d + 1) k_D_read 0 0 96 [some (.ref v0), some (.ref v1), some (.int x2), some (.int x3), o4] (pR r []) N' post)) : wp X (d + 1) k_D_read 0 0 90 [some (.ref v0), some (.ref v1), some (.int x2), some (.int x3), o4] [] (mk vi vl) post :=
  wr_aload_n (q := 0) (by decide +kernel) rfl rfl <|
  wr_iload_n (q := 2) (by decide +kernel) rfl rfl <|
  wr_aload_n (q := 1) (by decide +kernel) rfl rfl <|
  wr_invS (mid2 := 34) (idx := 35) (b1 := 0) (b2 := 0) (c1 := 0) (c2 := 0) (as := [.ref v0, .int x2, .ref v1]) (st := []) pl_34 rfl (Nat.le_of_ble_eq_true rfl) rfl rfl lm_D_35 it_34 (by decide +kernel) k1
theorem b_D_read_96 {X : aX} {d : Nat} {post : aO} {vi : Nat → Nat → Int32} {vl : Nat → Nat → Int64} {v0 v1 : Nat} {x2 x3 y0 : Int32} {o4 : Option Value} (k1 : post (some (.int y0)) (mk vi vl)) : wp X (d + 1) k_D_read 0 0 96 [some (.ref v0), some (.ref v1), some (.int x2), some (.int x3), o4] [.int y0] (mk vi vl) post :=
  wr_ret (r := some (.int y0)) (Or.inr (Or.inl ⟨_, rfl, (by decide +kernel), (Or.inl rfl)⟩)) k1
theorem b_D_pastBlanks_0 {X : aX} {d : Nat} {post : aO} {vi : Nat → Nat → Int32} {vl : Nat → Nat → Int64} {v0 : Nat} {x1 : Int32} (k1 : wp X (d + 1) k_D_pastBlanks 0 0 2 [some (.ref v0), some (.int x1), some (.int x1)] [] (mk vi vl) post) : wp X (d + 1) k_D_pastBlanks 0 0 0 [some (.ref v0), some (.int x1), none] [] (mk vi vl) post :=
  wr_iload_n (q := 1) (by decide +kernel) rfl rfl <|
  wr_istore_n (q := 2) (by decide +kernel) rfl (by decide) <|
  k1
theorem b_D_pastBlanks_2 {X : aX} {d : Nat} {post : aO} {vi : Nat → Nat → Int32} {vl : Nat → Nat → Int64} {v0 : Nat} {x1 x2 : Int32} (hv0 : isRw v0) (k1 : (vi v0 1) ≤ x2 → wp X (d + 1) k_D_pastBlanks 0 0 26 [some (.ref v0), some (.int x1), some (.int x2)] [] (mk vi vl) post) (k2 : ¬ (vi v0 1) ≤ x2 → wp X (d + 1) k_D_pastBlanks 0 0 10 [some (.ref v0), some (.int x1), some (.int x2)] [] (mk vi vl) post) : wp X (d + 1) k_D_pastBlanks 0 0 2 [some (.ref v0), some (.int x1), some (.int x2)] [] (mk vi vl) post :=
  wr_iload_n (q := 2) (by decide +kernel) rfl rfl <|
  wr_aload_n (q := 0) (by decide +kernel) rfl rfl <|
  wr_getI (ci := 2) (k0 := 1) (idx := 39) (rw_lt0 hv0) (rw_s0 hv0) (by decide) (by decide) lf_D_39 (Or.inl rfl) (by decide +kernel) <|
  wr_icmp_ge (off := 19) (t := 26) (by decide +kernel) (by decide) k1 k2
theorem b_D_pastBlanks_10 {X : aX} {d : Nat} {post : aO} {vi : Nat → Nat → Int32} {vl : Nat → Nat → Int64} {v0 : Nat} {x1 x2 : Int32} (k1 : CallOk X d 0 0 k_D_signAt [.ref v0, .int x2] (mk vi vl) (fun r N' => wp X (d + 1) k_D_pastBlanks 0 0 15 [some (.ref v0), some (.int x1), some (.int x2)] (pR r []) N' post)) : wp X (d + 1) k_D_pastBlanks 0 0 10 [some (.ref v0), some (.int x1), some (.int x2)] [] (mk vi vl) post :=
  wr_aload_n (q := 0) (by decide +kernel) rfl rfl <|
  wr_iload_n (q := 2) (by decide +kernel) rfl rfl <|
  wr_invS (mid2 := 29) (idx := 20) (b1 := 0) (b2 := 0) (c1 := 0) (c2 := 0) (as := [.ref v0, .int x2]) (st := []) pl_29 rfl (Nat.le_of_ble_eq_true rfl) rfl rfl lm_D_20 it_29 (by decide +kernel) k1
theorem b_D_pastBlanks_15 {X : aX} {d : Nat} {post : aO} {vi : Nat → Nat → Int32} {vl : Nat → Nat → Int64} {v0 : Nat} {x1 x2 y0 : Int32} (k1 : ¬ y0 = (32 : Int32) → wp X (d + 1) k_D_pastBlanks 0 0 26 [some (.ref v0), some (.int x1), some (.int x2)] [] (mk vi vl) post) (k2 : y0 = (32 : Int32) → wp X (d + 1) k_D_pastBlanks 0 0 20 [some (.ref v0), some (.int x1), some (.int x2)] [] (mk vi vl) post) : wp X (d + 1) k_D_pastBlanks 0 0 15 [some (.ref v0), some (.int x1), some (.int x2)] [.int y0] (mk vi vl) post :=
  wr_bipush (n := 32) (v := (32 : Int32)) (by decide +kernel) (by decide) <|
  wr_icmp_ne (off := 9) (t := 26) (by decide +kernel) (by decide) k1 k2
theorem b_D_pastBlanks_20 {X : aX} {d : Nat} {post : aO} {vi : Nat → Nat → Int32} {vl : Nat → Nat → Int64} {v0 : Nat} {x1 x2 : Int32} (k1 : wp X (d + 1) k_D_pastBlanks 0 0 2 [some (.ref v0), some (.int x1), some (.int (x2 + (1 : Int32)))] [] (mk vi vl) post) : wp X (d + 1) k_D_pastBlanks 0 0 20 [some (.ref v0), some (.int x1), some (.int x2)] [] (mk vi vl) post :=
  wr_iinc (i := 2) (n := 1) (v := (1 : Int32)) (by decide +kernel) rfl (by decide) (by decide) <|
  wr_goto (off := -21) (t := 2) (by decide +kernel) (by decide) k1
theorem b_D_pastBlanks_26 {X : aX} {d : Nat} {post : aO} {vi : Nat → Nat → Int32} {vl : Nat → Nat → Int64} {v0 : Nat} {x1 x2 : Int32} (k1 : post (some (.int x2)) (mk vi vl)) : wp X (d + 1) k_D_pastBlanks 0 0 26 [some (.ref v0), some (.int x1), some (.int x2)] [] (mk vi vl) post :=
  wr_iload_n (q := 2) (by decide +kernel) rfl rfl <|
  wr_ret (r := some (.int x2)) (Or.inr (Or.inl ⟨_, rfl, (by decide +kernel), (Or.inl rfl)⟩)) k1
theorem b_D_signAt_0 {X : aX} {d : Nat} {post : aO} {vi : Nat → Nat → Int32} {vl : Nat → Nat → Int64} {v0 : Nat} {x1 : Int32} (k1 : CallOk X d 0 0 k_R_has [.ref v0, .int x1] (mk vi vl) (fun r N' => wp X (d + 1) k_D_signAt 0 0 5 [some (.ref v0), some (.int x1)] (pR r []) N' post)) (hv0 : isRw v0) : wp X (d + 1) k_D_signAt 0 0 0 [some (.ref v0), some (.int x1)] [] (mk vi vl) post :=
  wr_aload_n (q := 0) (by decide +kernel) rfl rfl <|
  wr_iload_n (q := 1) (by decide +kernel) rfl rfl <|
  wr_invV (a := v0) (ci := 2) (mid2 := 15) (idx := 55) (b1 := 0) (b2 := 0) (c1 := 0) (c2 := 0) (as := [.int x1]) (st := []) pl_15 rfl (Nat.le_of_ble_eq_true rfl) rfl rfl (rw_lt0 hv0) (rw_s0 hv0) (by decide) rfl lm_D_55 im_15 is_15 (by decide +kernel) k1
theorem b_D_signAt_5 {X : aX} {d : Nat} {post : aO} {vi : Nat → Nat → Int32} {vl : Nat → Nat → Int64} {v0 : Nat} {x1 y0 : Int32} (k1 : y0 = 0 → wp X (d + 1) k_D_signAt 0 0 17 [some (.ref v0), some (.int x1)] [] (mk vi vl) post) (k2 : ¬ y0 = 0 → wp X (d + 1) k_D_signAt 0 0 8 [some (.ref v0), some (.int x1)] [] (mk vi vl) post) : wp X (d + 1) k_D_signAt 0 0 5 [some (.ref v0), some (.int x1)] [.int y0] (mk vi vl) post :=
  wr_if_eq (off := 12) (t := 17) (by decide +kernel) (by decide) k1 k2
theorem b_D_signAt_8 {X : aX} {d : Nat} {post : aO} {vi : Nat → Nat → Int32} {vl : Nat → Nat → Int64} {v0 : Nat} {x1 : Int32} (hv0 : isRw v0) (q1 : vp_in x1 (rl v0)) (k1 : wp X (d + 1) k_D_signAt 0 0 19 [some (.ref v0), some (.int x1)] [.int (vi (v0 + 1) x1.toNatClampNeg)] (mk vi vl) post) : wp X (d + 1) k_D_signAt 0 0 8 [some (.ref v0), some (.int x1)] [] (mk vi vl) post :=
  wr_aload_n (q := 0) (by decide +kernel) rfl rfl <|
  wr_getR2 (b := v0 + 1) (ci := 2) (k0 := 0) (idx := 58) (rw_lt0 hv0) (rw_s0 hv0) (by decide) (by decide) lf_D_58 rfl (rw_v0 hv0) (rw_lt1 hv0) (by decide +kernel) <|
  wr_iload_n (q := 1) (by decide +kernel) rfl rfl <|
  wr_iald (rw_lt1 hv0) (rw_s1 hv0) q1 (by decide +kernel) <|
  wr_goto (off := 5) (t := 19) (by decide +kernel) (by decide) k1
theorem b_D_signAt_17 {X : aX} {d : Nat} {post : aO} {vi : Nat → Nat → Int32} {vl : Nat → Nat → Int64} {v0 : Nat} {x1 : Int32} (k1 : wp X (d + 1) k_D_signAt 0 0 19 [some (.ref v0), some (.int x1)] [.int (-9 : Int32)] (mk vi vl) post) : wp X (d + 1) k_D_signAt 0 0 17 [some (.ref v0), some (.int x1)] [] (mk vi vl) post :=
  wr_bipush (n := -9) (v := (-9 : Int32)) (by decide +kernel) (by decide) <|
  k1
theorem b_D_signAt_19 {X : aX} {d : Nat} {post : aO} {vi : Nat → Nat → Int32} {vl : Nat → Nat → Int64} {v0 : Nat} {x1 y0 : Int32} (k1 : post (some (.int y0)) (mk vi vl)) : wp X (d + 1) k_D_signAt 0 0 19 [some (.ref v0), some (.int x1)] [.int y0] (mk vi vl) post :=
  wr_ret (r := some (.int y0)) (Or.inr (Or.inl ⟨_, rfl, (by decide +kernel), (Or.inl rfl)⟩)) k1
theorem b_D_isYearSign_0 {X : aX} {d : Nat} {post : aO} {vi : Nat → Nat → Int32} {vl : Nat → Nat → Int64} {x0 : Int32} (k1 : x0 = (45 : Int32) → wp X (d + 1) k_D_isYearSign 0 0 16 [some (.int x0)] [] (mk vi vl) post) (k2 : ¬ x0 = (45 : Int32) → wp X (d + 1) k_D_isYearSign 0 0 6 [some (.int x0)] [] (mk vi vl) post) : wp X (d + 1) k_D_isYearSign 0 0 0 [some (.int x0)] [] (mk vi vl) post :=
  wr_iload_n (q := 0) (by decide +kernel) rfl rfl <|
  wr_bipush (n := 45) (v := (45 : Int32)) (by decide +kernel) (by decide) <|
  wr_icmp_eq (off := 13) (t := 16) (by decide +kernel) (by decide) k1 k2
theorem b_D_isYearSign_6 {X : aX} {d : Nat} {post : aO} {vi : Nat → Nat → Int32} {vl : Nat → Nat → Int64} {x0 : Int32} (k1 : CallOk X d 0 0 k_S_isScene [.int (x0 - (48 : Int32))] (mk vi vl) (fun r N' => wp X (d + 1) k_D_isYearSign 0 0 13 [some (.int x0)] (pR r []) N' post)) : wp X (d + 1) k_D_isYearSign 0 0 6 [some (.int x0)] [] (mk vi vl) post :=
  wr_iload_n (q := 0) (by decide +kernel) rfl rfl <|
  wr_bipush (n := 48) (v := (48 : Int32)) (by decide +kernel) (by decide) <|
  wr_isub (by decide +kernel) <|
  wr_invSN (host := "SewnAhead") (mid2 := 31) (idx := 48) (b1 := 0) (b2 := 0) (c1 := 0) (c2 := 0) (as := [.int (x0 - (48 : Int32))]) (st := []) pl_31 rfl (Nat.le_of_ble_eq_true rfl) rfl rfl (by decide +kernel) it_31 (by decide +kernel) k1
theorem b_D_isYearSign_13 {X : aX} {d : Nat} {post : aO} {vi : Nat → Nat → Int32} {vl : Nat → Nat → Int64} {x0 y0 : Int32} (k1 : y0 = 0 → wp X (d + 1) k_D_isYearSign 0 0 20 [some (.int x0)] [] (mk vi vl) post) (k2 : ¬ y0 = 0 → wp X (d + 1) k_D_isYearSign 0 0 16 [some (.int x0)] [] (mk vi vl) post) : wp X (d + 1) k_D_isYearSign 0 0 13 [some (.int x0)] [.int y0] (mk vi vl) post :=
  wr_if_eq (off := 7) (t := 20) (by decide +kernel) (by decide) k1 k2
theorem b_D_isYearSign_16 {X : aX} {d : Nat} {post : aO} {vi : Nat → Nat → Int32} {vl : Nat → Nat → Int64} {x0 : Int32} (k1 : wp X (d + 1) k_D_isYearSign 0 0 21 [some (.int x0)] [.int (1 : Int32)] (mk vi vl) post) : wp X (d + 1) k_D_isYearSign 0 0 16 [some (.int x0)] [] (mk vi vl) post :=
  wr_iconst (n := 1) (v := (1 : Int32)) (by decide +kernel) (by decide) <|
  wr_goto (off := 4) (t := 21) (by decide +kernel) (by decide) k1
theorem b_D_isYearSign_20 {X : aX} {d : Nat} {post : aO} {vi : Nat → Nat → Int32} {vl : Nat → Nat → Int64} {x0 : Int32} (k1 : wp X (d + 1) k_D_isYearSign 0 0 21 [some (.int x0)] [.int (0 : Int32)] (mk vi vl) post) : wp X (d + 1) k_D_isYearSign 0 0 20 [some (.int x0)] [] (mk vi vl) post :=
  wr_iconst (n := 0) (v := (0 : Int32)) (by decide +kernel) (by decide) <|
  k1
theorem b_D_isYearSign_21 {X : aX} {d : Nat} {post : aO} {vi : Nat → Nat → Int32} {vl : Nat → Nat → Int64} {x0 y0 : Int32} (q1 : y0 = 0 ∨ y0 = 1) (k1 : post (some (.int y0)) (mk vi vl)) : wp X (d + 1) k_D_isYearSign 0 0 21 [some (.int x0)] [.int y0] (mk vi vl) post :=
  wr_ret (r := some (.int y0)) (Or.inr (Or.inl ⟨_, rfl, (by decide +kernel), (Or.inr ⟨rfl, q1⟩)⟩)) k1
theorem b_D_readLaws_0 {X : aX} {d : Nat} {post : aO} {vi : Nat → Nat → Int32} {vl : Nat → Nat → Int64} {v0 v2 : Nat} {x1 : Int32} (k1 : CallOk X d 0 0 k_D_pastBlanks [.ref v0, .int x1] (mk vi vl) (fun r N' => wp X (d + 1) k_D_readLaws 0 0 5 [some (.ref v0), some (.int x1), some (.ref v2), none, none, none, none, none] (pR r []) N' post)) : wp X (d + 1) k_D_readLaws 0 0 0 [some (.ref v0), some (.int x1), some (.ref v2), none, none, none, none, none] [] (mk vi vl) post :=
  wr_aload_n (q := 0) (by decide +kernel) rfl rfl <|
  wr_iload_n (q := 1) (by decide +kernel) rfl rfl <|
  wr_invS (mid2 := 28) (idx := 14) (b1 := 0) (b2 := 0) (c1 := 0) (c2 := 0) (as := [.ref v0, .int x1]) (st := []) pl_28 rfl (Nat.le_of_ble_eq_true rfl) rfl rfl lm_D_14 it_28 (by decide +kernel) k1
theorem b_D_readLaws_5 {X : aX} {d : Nat} {post : aO} {vi : Nat → Nat → Int32} {vl : Nat → Nat → Int64} {v0 v2 : Nat} {x1 y0 : Int32} {o3 o4 o5 o6 o7 : Option Value} (k1 : wp X (d + 1) k_D_readLaws 0 0 9 [some (.ref v0), some (.int x1), some (.ref v2), some (.int y0), some (.int (0 : Int32)), o5, o6, o7] [] (mk vi vl) post) : wp X (d + 1) k_D_readLaws 0 0 5 [some (.ref v0), some (.int x1), some (.ref v2), o3, o4, o5, o6, o7] [.int y0] (mk vi vl) post :=
  wr_istore_n (q := 3) (by decide +kernel) rfl (by decide) <|
  wr_iconst (n := 0) (v := (0 : Int32)) (by decide +kernel) (by decide) <|
  wr_istore (i := 4) (by decide +kernel) (by decide) <|
  k1
theorem b_D_readLaws_9 {X : aX} {d : Nat} {post : aO} {vi : Nat → Nat → Int32} {vl : Nat → Nat → Int64} {v0 v2 : Nat} {x1 x3 x4 : Int32} {o5 o6 o7 : Option Value} (k1 : (8 : Int32) ≤ x4 → wp X (d + 1) k_D_readLaws 0 0 115 [some (.ref v0), some (.int x1), some (.ref v2), some (.int x3), some (.int x4), o5, o6, o7] [] (mk vi vl) post) (k2 : ¬ (8 : Int32) ≤ x4 → wp X (d + 1) k_D_readLaws 0 0 16 [some (.ref v0), some (.int x1), some (.ref v2), some (.int x3), some (.int x4), o5, o6, o7] [] (mk vi vl) post) : wp X (d + 1) k_D_readLaws 0 0 9 [some (.ref v0), some (.int x1), some (.ref v2), some (.int x3), some (.int x4), o5, o6, o7] [] (mk vi vl) post :=
  wr_iload (i := 4) (by decide +kernel) rfl <|
  wr_bipush (n := 8) (v := (8 : Int32)) (by decide +kernel) (by decide) <|
  wr_icmp_ge (off := 102) (t := 115) (by decide +kernel) (by decide) k1 k2
theorem b_D_readLaws_16 {X : aX} {d : Nat} {post : aO} {vi : Nat → Nat → Int32} {vl : Nat → Nat → Int64} {v0 v2 : Nat} {x1 x3 x4 : Int32} {o5 o6 o7 : Option Value} (hv0 : isRw v0) (k1 : (vi v0 1) ≤ x3 → wp X (d + 1) k_D_readLaws 0 0 115 [some (.ref v0), some (.int x1), some (.ref v2), some (.int x3), some (.int x4), o5, o6, o7] [] (mk vi vl) post) (k2 : ¬ (vi v0 1) ≤ x3 → wp X (d + 1) k_D_readLaws 0 0 24 [some (.ref v0), some (.int x1), some (.ref v2), some (.int x3), some (.int x4), o5, o6, o7] [] (mk vi vl) post) : wp X (d + 1) k_D_readLaws 0 0 16 [some (.ref v0), some (.int x1), some (.ref v2), some (.int x3), some (.int x4), o5, o6, o7] [] (mk vi vl) post :=
  wr_iload_n (q := 3) (by decide +kernel) rfl rfl <|
  wr_aload_n (q := 0) (by decide +kernel) rfl rfl <|
  wr_getI (ci := 2) (k0 := 1) (idx := 39) (rw_lt0 hv0) (rw_s0 hv0) (by decide) (by decide) lf_D_39 (Or.inl rfl) (by decide +kernel) <|
  wr_icmp_ge (off := 94) (t := 115) (by decide +kernel) (by decide) k1 k2
theorem b_D_readLaws_24 {X : aX} {d : Nat} {post : aO} {vi : Nat → Nat → Int32} {vl : Nat → Nat → Int64} {v0 v2 : Nat} {x1 x3 x4 : Int32} {o5 o6 o7 : Option Value} (k1 : CallOk X d 0 0 k_D_signAt [.ref v0, .int x3] (mk vi vl) (fun r N' => wp X (d + 1) k_D_readLaws 0 0 29 [some (.ref v0), some (.int x1), some (.ref v2), some (.int x3), some (.int x4), o5, o6, o7] (pR r []) N' post)) : wp X (d + 1) k_D_readLaws 0 0 24 [some (.ref v0), some (.int x1), some (.ref v2), some (.int x3), some (.int x4), o5, o6, o7] [] (mk vi vl) post :=
  wr_aload_n (q := 0) (by decide +kernel) rfl rfl <|
  wr_iload_n (q := 3) (by decide +kernel) rfl rfl <|
  wr_invS (mid2 := 29) (idx := 20) (b1 := 0) (b2 := 0) (c1 := 0) (c2 := 0) (as := [.ref v0, .int x3]) (st := []) pl_29 rfl (Nat.le_of_ble_eq_true rfl) rfl rfl lm_D_20 it_29 (by decide +kernel) k1
theorem b_D_readLaws_29 {X : aX} {d : Nat} {post : aO} {vi : Nat → Nat → Int32} {vl : Nat → Nat → Int64} {v0 v2 : Nat} {x1 x3 x4 y0 : Int32} {o5 o6 o7 : Option Value} (k1 : CallOk X d 0 0 k_D_kindOf [.int y0] (mk vi vl) (fun r N' => wp X (d + 1) k_D_readLaws 0 0 32 [some (.ref v0), some (.int x1), some (.ref v2), some (.int x3), some (.int x4), o5, o6, o7] (pR r []) N' post)) : wp X (d + 1) k_D_readLaws 0 0 29 [some (.ref v0), some (.int x1), some (.ref v2), some (.int x3), some (.int x4), o5, o6, o7] [.int y0] (mk vi vl) post :=
  wr_invS (mid2 := 35) (idx := 44) (b1 := 0) (b2 := 0) (c1 := 0) (c2 := 0) (as := [.int y0]) (st := []) pl_35 rfl (Nat.le_of_ble_eq_true rfl) rfl rfl lm_D_44 it_35 (by decide +kernel) k1
theorem b_D_readLaws_32 {X : aX} {d : Nat} {post : aO} {vi : Nat → Nat → Int32} {vl : Nat → Nat → Int64} {v0 v2 : Nat} {x1 x3 x4 y0 : Int32} {o5 o6 o7 : Option Value} (k1 : ¬ y0 = (-9 : Int32) → wp X (d + 1) k_D_readLaws 0 0 43 [some (.ref v0), some (.int x1), some (.ref v2), some (.int x3), some (.int x4), some (.int y0), o6, o7] [] (mk vi vl) post) (k2 : y0 = (-9 : Int32) → wp X (d + 1) k_D_readLaws 0 0 41 [some (.ref v0), some (.int x1), some (.ref v2), some (.int x3), some (.int x4), some (.int y0), o6, o7] [] (mk vi vl) post) : wp X (d + 1) k_D_readLaws 0 0 32 [some (.ref v0), some (.int x1), some (.ref v2), some (.int x3), some (.int x4), o5, o6, o7] [.int y0] (mk vi vl) post :=
  wr_istore (i := 5) (by decide +kernel) (by decide) <|
  wr_iload (i := 5) (by decide +kernel) rfl <|
  wr_bipush (n := -9) (v := (-9 : Int32)) (by decide +kernel) (by decide) <|
  wr_icmp_ne (off := 5) (t := 43) (by decide +kernel) (by decide) k1 k2
theorem b_D_readLaws_41 {X : aX} {d : Nat} {post : aO} {vi : Nat → Nat → Int32} {vl : Nat → Nat → Int64} {v0 v2 : Nat} {x1 x3 x4 x5 : Int32} {o6 o7 : Option Value} (k1 : post (some (.int x3)) (mk vi vl)) : wp X (d + 1) k_D_readLaws 0 0 41 [some (.ref v0), some (.int x1), some (.ref v2), some (.int x3), some (.int x4), some (.int x5), o6, o7] [] (mk vi vl) post :=
  wr_iload_n (q := 3) (by decide +kernel) rfl rfl <|
  wr_ret (r := some (.int x3)) (Or.inr (Or.inl ⟨_, rfl, (by decide +kernel), (Or.inl rfl)⟩)) k1
theorem b_D_readLaws_43 {X : aX} {d : Nat} {post : aO} {vi : Nat → Nat → Int32} {vl : Nat → Nat → Int64} {v0 v2 : Nat} {x1 x3 x4 x5 : Int32} {o6 o7 : Option Value} (k1 : CallOk X d 0 0 k_D_signAt [.ref v0, .int (x3 + (1 : Int32))] (mk vi vl) (fun r N' => wp X (d + 1) k_D_readLaws 0 0 50 [some (.ref v0), some (.int x1), some (.ref v2), some (.int x3), some (.int x4), some (.int x5), o6, o7] (pR r []) N' post)) : wp X (d + 1) k_D_readLaws 0 0 43 [some (.ref v0), some (.int x1), some (.ref v2), some (.int x3), some (.int x4), some (.int x5), o6, o7] [] (mk vi vl) post :=
  wr_aload_n (q := 0) (by decide +kernel) rfl rfl <|
  wr_iload_n (q := 3) (by decide +kernel) rfl rfl <|
  wr_iconst (n := 1) (v := (1 : Int32)) (by decide +kernel) (by decide) <|
  wr_iadd (by decide +kernel) <|
  wr_invS (mid2 := 29) (idx := 20) (b1 := 0) (b2 := 0) (c1 := 0) (c2 := 0) (as := [.ref v0, .int (x3 + (1 : Int32))]) (st := []) pl_29 rfl (Nat.le_of_ble_eq_true rfl) rfl rfl lm_D_20 it_29 (by decide +kernel) k1
theorem b_D_readLaws_50 {X : aX} {d : Nat} {post : aO} {vi : Nat → Nat → Int32} {vl : Nat → Nat → Int64} {v0 v2 : Nat} {x1 x3 x4 x5 y0 : Int32} {o6 o7 : Option Value} (k1 : CallOk X d 0 0 k_S_isScene [.int (y0 - (48 : Int32))] (mk vi vl) (fun r N' => wp X (d + 1) k_D_readLaws 0 0 60 [some (.ref v0), some (.int x1), some (.ref v2), some (.int x3), some (.int x4), some (.int x5), some (.int (y0 - (48 : Int32))), o7] (pR r []) N' post)) : wp X (d + 1) k_D_readLaws 0 0 50 [some (.ref v0), some (.int x1), some (.ref v2), some (.int x3), some (.int x4), some (.int x5), o6, o7] [.int y0] (mk vi vl) post :=
  wr_bipush (n := 48) (v := (48 : Int32)) (by decide +kernel) (by decide) <|
  wr_isub (by decide +kernel) <|
  wr_istore (i := 6) (by decide +kernel) (by decide) <|
  wr_iload (i := 6) (by decide +kernel) rfl <|
  wr_invSN (host := "SewnAhead") (mid2 := 31) (idx := 48) (b1 := 0) (b2 := 0) (c1 := 0) (c2 := 0) (as := [.int (y0 - (48 : Int32))]) (st := []) pl_31 rfl (Nat.le_of_ble_eq_true rfl) rfl rfl (by decide +kernel) it_31 (by decide +kernel) k1
theorem b_D_readLaws_60 {X : aX} {d : Nat} {post : aO} {vi : Nat → Nat → Int32} {vl : Nat → Nat → Int64} {v0 v2 : Nat} {x1 x3 x4 x5 x6 y0 : Int32} {o7 : Option Value} (k1 : ¬ y0 = 0 → wp X (d + 1) k_D_readLaws 0 0 67 [some (.ref v0), some (.int x1), some (.ref v2), some (.int x3), some (.int x4), some (.int x5), some (.int x6), o7] [] (mk vi vl) post) (k2 : y0 = 0 → wp X (d + 1) k_D_readLaws 0 0 63 [some (.ref v0), some (.int x1), some (.ref v2), some (.int x3), some (.int x4), some (.int x5), some (.int x6), o7] [] (mk vi vl) post) : wp X (d + 1) k_D_readLaws 0 0 60 [some (.ref v0), some (.int x1), some (.ref v2), some (.int x3), some (.int x4), some (.int x5), some (.int x6), o7] [.int y0] (mk vi vl) post :=
  wr_if_ne (off := 7) (t := 67) (by decide +kernel) (by decide) k1 k2
theorem b_D_readLaws_63 {X : aX} {d : Nat} {post : aO} {vi : Nat → Nat → Int32} {vl : Nat → Nat → Int64} {v0 v2 : Nat} {x1 x3 x4 x5 x6 : Int32} {o7 : Option Value} (k1 : post (some (.int (x3 + (1 : Int32)))) (mk vi vl)) : wp X (d + 1) k_D_readLaws 0 0 63 [some (.ref v0), some (.int x1), some (.ref v2), some (.int x3), some (.int x4), some (.int x5), some (.int x6), o7] [] (mk vi vl) post :=
  wr_iload_n (q := 3) (by decide +kernel) rfl rfl <|
  wr_iconst (n := 1) (v := (1 : Int32)) (by decide +kernel) (by decide) <|
  wr_iadd (by decide +kernel) <|
  wr_ret (r := some (.int (x3 + (1 : Int32)))) (Or.inr (Or.inl ⟨_, rfl, (by decide +kernel), (Or.inl rfl)⟩)) k1
theorem b_D_readLaws_67 {X : aX} {d : Nat} {post : aO} {vi : Nat → Nat → Int32} {vl : Nat → Nat → Int64} {v0 v2 : Nat} {x1 x3 x4 x5 x6 : Int32} {o7 : Option Value} (k1 : CallOk X d 0 0 k_D_signAt [.ref v0, .int (x3 + (2 : Int32))] (mk vi vl) (fun r N' => wp X (d + 1) k_D_readLaws 0 0 74 [some (.ref v0), some (.int x1), some (.ref v2), some (.int x3), some (.int x4), some (.int x5), some (.int x6), o7] (pR r []) N' post)) : wp X (d + 1) k_D_readLaws 0 0 67 [some (.ref v0), some (.int x1), some (.ref v2), some (.int x3), some (.int x4), some (.int x5), some (.int x6), o7] [] (mk vi vl) post :=
  wr_aload_n (q := 0) (by decide +kernel) rfl rfl <|
  wr_iload_n (q := 3) (by decide +kernel) rfl rfl <|
  wr_iconst (n := 2) (v := (2 : Int32)) (by decide +kernel) (by decide) <|
  wr_iadd (by decide +kernel) <|
  wr_invS (mid2 := 29) (idx := 20) (b1 := 0) (b2 := 0) (c1 := 0) (c2 := 0) (as := [.ref v0, .int (x3 + (2 : Int32))]) (st := []) pl_29 rfl (Nat.le_of_ble_eq_true rfl) rfl rfl lm_D_20 it_29 (by decide +kernel) k1
theorem b_D_readLaws_74 {X : aX} {d : Nat} {post : aO} {vi : Nat → Nat → Int32} {vl : Nat → Nat → Int64} {v0 v2 : Nat} {x1 x3 x4 x5 x6 y0 : Int32} {o7 : Option Value} (k1 : CallOk X d 0 0 k_S_isScene [.int (y0 - (48 : Int32))] (mk vi vl) (fun r N' => wp X (d + 1) k_D_readLaws 0 0 84 [some (.ref v0), some (.int x1), some (.ref v2), some (.int x3), some (.int x4), some (.int x5), some (.int x6), some (.int (y0 - (48 : Int32)))] (pR r []) N' post)) : wp X (d + 1) k_D_readLaws 0 0 74 [some (.ref v0), some (.int x1), some (.ref v2), some (.int x3), some (.int x4), some (.int x5), some (.int x6), o7] [.int y0] (mk vi vl) post :=
  wr_bipush (n := 48) (v := (48 : Int32)) (by decide +kernel) (by decide) <|
  wr_isub (by decide +kernel) <|
  wr_istore (i := 7) (by decide +kernel) (by decide) <|
  wr_iload (i := 7) (by decide +kernel) rfl <|
  wr_invSN (host := "SewnAhead") (mid2 := 31) (idx := 48) (b1 := 0) (b2 := 0) (c1 := 0) (c2 := 0) (as := [.int (y0 - (48 : Int32))]) (st := []) pl_31 rfl (Nat.le_of_ble_eq_true rfl) rfl rfl (by decide +kernel) it_31 (by decide +kernel) k1
theorem b_D_readLaws_84 {X : aX} {d : Nat} {post : aO} {vi : Nat → Nat → Int32} {vl : Nat → Nat → Int64} {v0 v2 : Nat} {x1 x3 x4 x5 x6 x7 y0 : Int32} (k1 : ¬ y0 = 0 → wp X (d + 1) k_D_readLaws 0 0 91 [some (.ref v0), some (.int x1), some (.ref v2), some (.int x3), some (.int x4), some (.int x5), some (.int x6), some (.int x7)] [] (mk vi vl) post) (k2 : y0 = 0 → wp X (d + 1) k_D_readLaws 0 0 87 [some (.ref v0), some (.int x1), some (.ref v2), some (.int x3), some (.int x4), some (.int x5), some (.int x6), some (.int x7)] [] (mk vi vl) post) : wp X (d + 1) k_D_readLaws 0 0 84 [some (.ref v0), some (.int x1), some (.ref v2), some (.int x3), some (.int x4), some (.int x5), some (.int x6), some (.int x7)] [.int y0] (mk vi vl) post :=
  wr_if_ne (off := 7) (t := 91) (by decide +kernel) (by decide) k1 k2
theorem b_D_readLaws_87 {X : aX} {d : Nat} {post : aO} {vi : Nat → Nat → Int32} {vl : Nat → Nat → Int64} {v0 v2 : Nat} {x1 x3 x4 x5 x6 x7 : Int32} (k1 : post (some (.int (x3 + (2 : Int32)))) (mk vi vl)) : wp X (d + 1) k_D_readLaws 0 0 87 [some (.ref v0), some (.int x1), some (.ref v2), some (.int x3), some (.int x4), some (.int x5), some (.int x6), some (.int x7)] [] (mk vi vl) post :=
  wr_iload_n (q := 3) (by decide +kernel) rfl rfl <|
  wr_iconst (n := 2) (v := (2 : Int32)) (by decide +kernel) (by decide) <|
  wr_iadd (by decide +kernel) <|
  wr_ret (r := some (.int (x3 + (2 : Int32)))) (Or.inr (Or.inl ⟨_, rfl, (by decide +kernel), (Or.inl rfl)⟩)) k1
theorem b_D_readLaws_91 {X : aX} {d : Nat} {post : aO} {vi : Nat → Nat → Int32} {vl : Nat → Nat → Int64} {v0 v2 : Nat} {x1 x3 x4 x5 x6 x7 : Int32} (k1 : CallOk X d 0 0 k_C_addLaw [.ref v2, .int x5, .int x6, .int x7] (mk vi vl) (fun r N' => wp X (d + 1) k_D_readLaws 0 0 101 [some (.ref v0), some (.int x1), some (.ref v2), some (.int x3), some (.int x4), some (.int x5), some (.int x6), some (.int x7)] (pR r []) N' post)) (hv2 : isCl v2) : wp X (d + 1) k_D_readLaws 0 0 91 [some (.ref v0), some (.int x1), some (.ref v2), some (.int x3), some (.int x4), some (.int x5), some (.int x6), some (.int x7)] [] (mk vi vl) post :=
  wr_aload_n (q := 2) (by decide +kernel) rfl rfl <|
  wr_iload (i := 5) (by decide +kernel) rfl <|
  wr_iload (i := 6) (by decide +kernel) rfl <|
  wr_iload (i := 7) (by decide +kernel) rfl <|
  wr_invV (a := v2) (ci := 0) (mid2 := 36) (idx := 51) (b1 := 0) (b2 := 0) (c1 := 0) (c2 := 0) (as := [.int x5, .int x6, .int x7]) (st := []) pl_36 rfl (Nat.le_of_ble_eq_true rfl) rfl rfl (cl_lt0 hv2) (cl_s0 hv2) (by decide) rfl lm_D_51 im_36 is_36 (by decide +kernel) k1
theorem b_D_readLaws_101 {X : aX} {d : Nat} {post : aO} {vi : Nat → Nat → Int32} {vl : Nat → Nat → Int64} {v0 v2 : Nat} {x1 x3 x4 x5 x6 x7 : Int32} (k1 : CallOk X d 0 0 k_D_pastBlanks [.ref v0, .int (x3 + (3 : Int32))] (mk vi vl) (fun r N' => wp X (d + 1) k_D_readLaws 0 0 108 [some (.ref v0), some (.int x1), some (.ref v2), some (.int x3), some (.int x4), some (.int x5), some (.int x6), some (.int x7)] (pR r []) N' post)) : wp X (d + 1) k_D_readLaws 0 0 101 [some (.ref v0), some (.int x1), some (.ref v2), some (.int x3), some (.int x4), some (.int x5), some (.int x6), some (.int x7)] [] (mk vi vl) post :=
  wr_aload_n (q := 0) (by decide +kernel) rfl rfl <|
  wr_iload_n (q := 3) (by decide +kernel) rfl rfl <|
  wr_iconst (n := 3) (v := (3 : Int32)) (by decide +kernel) (by decide) <|
  wr_iadd (by decide +kernel) <|
  wr_invS (mid2 := 28) (idx := 14) (b1 := 0) (b2 := 0) (c1 := 0) (c2 := 0) (as := [.ref v0, .int (x3 + (3 : Int32))]) (st := []) pl_28 rfl (Nat.le_of_ble_eq_true rfl) rfl rfl lm_D_14 it_28 (by decide +kernel) k1
theorem b_D_readLaws_108 {X : aX} {d : Nat} {post : aO} {vi : Nat → Nat → Int32} {vl : Nat → Nat → Int64} {v0 v2 : Nat} {x1 x3 x4 x5 x6 x7 y0 : Int32} (k1 : wp X (d + 1) k_D_readLaws 0 0 9 [some (.ref v0), some (.int x1), some (.ref v2), some (.int y0), some (.int (x4 + (1 : Int32))), some (.int x5), some (.int x6), some (.int x7)] [] (mk vi vl) post) : wp X (d + 1) k_D_readLaws 0 0 108 [some (.ref v0), some (.int x1), some (.ref v2), some (.int x3), some (.int x4), some (.int x5), some (.int x6), some (.int x7)] [.int y0] (mk vi vl) post :=
  wr_istore_n (q := 3) (by decide +kernel) rfl (by decide) <|
  wr_iinc (i := 4) (n := 1) (v := (1 : Int32)) (by decide +kernel) rfl (by decide) (by decide) <|
  wr_goto (off := -103) (t := 9) (by decide +kernel) (by decide) k1
theorem b_D_readLaws_115 {X : aX} {d : Nat} {post : aO} {vi : Nat → Nat → Int32} {vl : Nat → Nat → Int64} {v0 v2 : Nat} {x1 x3 x4 : Int32} {o5 o6 o7 : Option Value} (hv0 : isRw v0) (k1 : (vi v0 1) ≤ x3 → wp X (d + 1) k_D_readLaws 0 0 127 [some (.ref v0), some (.int x1), some (.ref v2), some (.int x3), some (.int x4), o5, o6, o7] [] (mk vi vl) post) (k2 : ¬ (vi v0 1) ≤ x3 → wp X (d + 1) k_D_readLaws 0 0 123 [some (.ref v0), some (.int x1), some (.ref v2), some (.int x3), some (.int x4), o5, o6, o7] [] (mk vi vl) post) : wp X (d + 1) k_D_readLaws 0 0 115 [some (.ref v0), some (.int x1), some (.ref v2), some (.int x3), some (.int x4), o5, o6, o7] [] (mk vi vl) post :=
  wr_iload_n (q := 3) (by decide +kernel) rfl rfl <|
  wr_aload_n (q := 0) (by decide +kernel) rfl rfl <|
  wr_getI (ci := 2) (k0 := 1) (idx := 39) (rw_lt0 hv0) (rw_s0 hv0) (by decide) (by decide) lf_D_39 (Or.inl rfl) (by decide +kernel) <|
  wr_icmp_ge (off := 7) (t := 127) (by decide +kernel) (by decide) k1 k2
theorem b_D_readLaws_123 {X : aX} {d : Nat} {post : aO} {vi : Nat → Nat → Int32} {vl : Nat → Nat → Int64} {v0 v2 : Nat} {x1 x3 x4 : Int32} {o5 o6 o7 : Option Value} (k1 : wp X (d + 1) k_D_readLaws 0 0 129 [some (.ref v0), some (.int x1), some (.ref v2), some (.int x3), some (.int x4), o5, o6, o7] [.int x3] (mk vi vl) post) : wp X (d + 1) k_D_readLaws 0 0 123 [some (.ref v0), some (.int x1), some (.ref v2), some (.int x3), some (.int x4), o5, o6, o7] [] (mk vi vl) post :=
  wr_iload_n (q := 3) (by decide +kernel) rfl rfl <|
  wr_goto (off := 5) (t := 129) (by decide +kernel) (by decide) k1
theorem b_D_readLaws_127 {X : aX} {d : Nat} {post : aO} {vi : Nat → Nat → Int32} {vl : Nat → Nat → Int64} {v0 v2 : Nat} {x1 x3 x4 : Int32} {o5 o6 o7 : Option Value} (k1 : wp X (d + 1) k_D_readLaws 0 0 129 [some (.ref v0), some (.int x1), some (.ref v2), some (.int x3), some (.int x4), o5, o6, o7] [.int (-9 : Int32)] (mk vi vl) post) : wp X (d + 1) k_D_readLaws 0 0 127 [some (.ref v0), some (.int x1), some (.ref v2), some (.int x3), some (.int x4), o5, o6, o7] [] (mk vi vl) post :=
  wr_bipush (n := -9) (v := (-9 : Int32)) (by decide +kernel) (by decide) <|
  k1
theorem b_D_readLaws_129 {X : aX} {d : Nat} {post : aO} {vi : Nat → Nat → Int32} {vl : Nat → Nat → Int64} {v0 v2 : Nat} {x1 x3 x4 y0 : Int32} {o5 o6 o7 : Option Value} (k1 : post (some (.int y0)) (mk vi vl)) : wp X (d + 1) k_D_readLaws 0 0 129 [some (.ref v0), some (.int x1), some (.ref v2), some (.int x3), some (.int x4), o5, o6, o7] [.int y0] (mk vi vl) post :=
  wr_ret (r := some (.int y0)) (Or.inr (Or.inl ⟨_, rfl, (by decide +kernel), (Or.inl rfl)⟩)) k1
theorem b_D_kindOf_0 {X : aX} {d : Nat} {post : aO} {vi : Nat → Nat → Int32} {vl : Nat → Nat → Int64} {x0 : Int32} (k1 : wp X (d + 1) k_D_kindOf 0 0 2 [some (.int x0), some (.int (0 : Int32))] [] (mk vi vl) post) : wp X (d + 1) k_D_kindOf 0 0 0 [some (.int x0), none] [] (mk vi vl) post :=
  wr_iconst (n := 0) (v := (0 : Int32)) (by decide +kernel) (by decide) <|
  wr_istore_n (q := 1) (by decide +kernel) rfl (by decide) <|
  k1
theorem b_D_kindOf_2 {X : aX} {d : Nat} {post : aO} {vi : Nat → Nat → Int32} {vl : Nat → Nat → Int64} {x0 x1 : Int32} (k1 : (6 : Int32) ≤ x1 → wp X (d + 1) k_D_kindOf 0 0 25 [some (.int x0), some (.int x1)] [] (mk vi vl) post) (k2 : ¬ (6 : Int32) ≤ x1 → wp X (d + 1) k_D_kindOf 0 0 8 [some (.int x0), some (.int x1)] [] (mk vi vl) post) : wp X (d + 1) k_D_kindOf 0 0 2 [some (.int x0), some (.int x1)] [] (mk vi vl) post :=
  wr_iload_n (q := 1) (by decide +kernel) rfl rfl <|
  wr_bipush (n := 6) (v := (6 : Int32)) (by decide +kernel) (by decide) <|
  wr_icmp_ge (off := 20) (t := 25) (by decide +kernel) (by decide) k1 k2
theorem b_D_kindOf_8 {X : aX} {d : Nat} {post : aO} {vi : Nat → Nat → Int32} {vl : Nat → Nat → Int64} {x0 x1 : Int32} (q1 : vp_in x1 6) (k1 : ¬ (am_let x1.toNatClampNeg) = x0 → wp X (d + 1) k_D_kindOf 0 0 19 [some (.int x0), some (.int x1)] [] (mk vi vl) post) (k2 : (am_let x1.toNatClampNeg) = x0 → wp X (d + 1) k_D_kindOf 0 0 17 [some (.int x0), some (.int x1)] [] (mk vi vl) post) : wp X (d + 1) k_D_kindOf 0 0 8 [some (.int x0), some (.int x1)] [] (mk vi vl) post :=
  wr_gLet rfl (by decide +kernel) <|
  wr_iload_n (q := 1) (by decide +kernel) rfl rfl <|
  wr_tc q1 (by decide +kernel) <|
  wr_iload_n (q := 0) (by decide +kernel) rfl rfl <|
  wr_icmp_ne (off := 5) (t := 19) (by decide +kernel) (by decide) k1 k2
theorem b_D_kindOf_17 {X : aX} {d : Nat} {post : aO} {vi : Nat → Nat → Int32} {vl : Nat → Nat → Int64} {x0 x1 : Int32} (k1 : post (some (.int x1)) (mk vi vl)) : wp X (d + 1) k_D_kindOf 0 0 17 [some (.int x0), some (.int x1)] [] (mk vi vl) post :=
  wr_iload_n (q := 1) (by decide +kernel) rfl rfl <|
  wr_ret (r := some (.int x1)) (Or.inr (Or.inl ⟨_, rfl, (by decide +kernel), (Or.inl rfl)⟩)) k1
theorem b_D_kindOf_19 {X : aX} {d : Nat} {post : aO} {vi : Nat → Nat → Int32} {vl : Nat → Nat → Int64} {x0 x1 : Int32} (k1 : wp X (d + 1) k_D_kindOf 0 0 2 [some (.int x0), some (.int (x1 + (1 : Int32)))] [] (mk vi vl) post) : wp X (d + 1) k_D_kindOf 0 0 19 [some (.int x0), some (.int x1)] [] (mk vi vl) post :=
  wr_iinc (i := 1) (n := 1) (v := (1 : Int32)) (by decide +kernel) rfl (by decide) (by decide) <|
  wr_goto (off := -20) (t := 2) (by decide +kernel) (by decide) k1
theorem b_D_kindOf_25 {X : aX} {d : Nat} {post : aO} {vi : Nat → Nat → Int32} {vl : Nat → Nat → Int64} {x0 x1 : Int32} (k1 : post (some (.int (-9 : Int32))) (mk vi vl)) : wp X (d + 1) k_D_kindOf 0 0 25 [some (.int x0), some (.int x1)] [] (mk vi vl) post :=
  wr_bipush (n := -9) (v := (-9 : Int32)) (by decide +kernel) (by decide) <|
  wr_ret (r := some (.int (-9 : Int32))) (Or.inr (Or.inl ⟨_, rfl, (by decide +kernel), (Or.inl rfl)⟩)) k1
theorem b_J_bitCount_0 {X : aX} {d : Nat} {post : aO} {vi : Nat → Nat → Int32} {vl : Nat → Nat → Int64} {x0 : Int32} (k1 : post (some (.int ((((((((x0 - (((x0.toUInt32 >>> ((1 : Int32).toUInt32 &&& Int32.toUInt32 31)).toInt32) &&& (1431655765 : Int32))) &&& (858993459 : Int32)) + ((((x0 - (((x0.toUInt32 >>> ((1 : Int32).toUInt32 &&& Int32.toUInt32 31)).toInt32) &&& (1431655765 : Int32))).toUInt32 >>> ((2 : Int32).toUInt32 &&& Int32.toUInt32 31)).toInt32) &&& (858993459 : Int32))) + (((((x0 - (((x0.toUInt32 >>> ((1 : Int32).toUInt32 &&& Int32.toUInt32 31)).toInt32) &&& (1431655765 : Int32))) &&& (858993459 : Int32)) + ((((x0 - (((x0.toUInt32 >>> ((1 : Int32).toUInt32 &&& Int32.toUInt32 31)).toInt32) &&& (1431655765 : Int32))).toUInt32 >>> ((2 : Int32).toUInt32 &&& Int32.toUInt32 31)).toInt32) &&& (858993459 : Int32))).toUInt32 >>> ((4 : Int32).toUInt32 &&& Int32.toUInt32 31)).toInt32)) &&& (252645135 : Int32)) + (((((((x0 - (((x0.toUInt32 >>> ((1 : Int32).toUInt32 &&& Int32.toUInt32 31)).toInt32) &&& (1431655765 : Int32))) &&& (858993459 : Int32)) + ((((x0 - (((x0.toUInt32 >>> ((1 : Int32).toUInt32 &&& Int32.toUInt32 31)).toInt32) &&& (1431655765 : Int32))).toUInt32 >>> ((2 : Int32).toUInt32 &&& Int32.toUInt32 31)).toInt32) &&& (858993459 : Int32))) + (((((x0 - (((x0.toUInt32 >>> ((1 : Int32).toUInt32 &&& Int32.toUInt32 31)).toInt32) &&& (1431655765 : Int32))) &&& (858993459 : Int32)) + ((((x0 - (((x0.toUInt32 >>> ((1 : Int32).toUInt32 &&& Int32.toUInt32 31)).toInt32) &&& (1431655765 : Int32))).toUInt32 >>> ((2 : Int32).toUInt32 &&& Int32.toUInt32 31)).toInt32) &&& (858993459 : Int32))).toUInt32 >>> ((4 : Int32).toUInt32 &&& Int32.toUInt32 31)).toInt32)) &&& (252645135 : Int32)).toUInt32 >>> ((8 : Int32).toUInt32 &&& Int32.toUInt32 31)).toInt32)) + ((((((((x0 - (((x0.toUInt32 >>> ((1 : Int32).toUInt32 &&& Int32.toUInt32 31)).toInt32) &&& (1431655765 : Int32))) &&& (858993459 : Int32)) + ((((x0 - (((x0.toUInt32 >>> ((1 : Int32).toUInt32 &&& Int32.toUInt32 31)).toInt32) &&& (1431655765 : Int32))).toUInt32 >>> ((2 : Int32).toUInt32 &&& Int32.toUInt32 31)).toInt32) &&& (858993459 : Int32))) + (((((x0 - (((x0.toUInt32 >>> ((1 : Int32).toUInt32 &&& Int32.toUInt32 31)).toInt32) &&& (1431655765 : Int32))) &&& (858993459 : Int32)) + ((((x0 - (((x0.toUInt32 >>> ((1 : Int32).toUInt32 &&& Int32.toUInt32 31)).toInt32) &&& (1431655765 : Int32))).toUInt32 >>> ((2 : Int32).toUInt32 &&& Int32.toUInt32 31)).toInt32) &&& (858993459 : Int32))).toUInt32 >>> ((4 : Int32).toUInt32 &&& Int32.toUInt32 31)).toInt32)) &&& (252645135 : Int32)) + (((((((x0 - (((x0.toUInt32 >>> ((1 : Int32).toUInt32 &&& Int32.toUInt32 31)).toInt32) &&& (1431655765 : Int32))) &&& (858993459 : Int32)) + ((((x0 - (((x0.toUInt32 >>> ((1 : Int32).toUInt32 &&& Int32.toUInt32 31)).toInt32) &&& (1431655765 : Int32))).toUInt32 >>> ((2 : Int32).toUInt32 &&& Int32.toUInt32 31)).toInt32) &&& (858993459 : Int32))) + (((((x0 - (((x0.toUInt32 >>> ((1 : Int32).toUInt32 &&& Int32.toUInt32 31)).toInt32) &&& (1431655765 : Int32))) &&& (858993459 : Int32)) + ((((x0 - (((x0.toUInt32 >>> ((1 : Int32).toUInt32 &&& Int32.toUInt32 31)).toInt32) &&& (1431655765 : Int32))).toUInt32 >>> ((2 : Int32).toUInt32 &&& Int32.toUInt32 31)).toInt32) &&& (858993459 : Int32))).toUInt32 >>> ((4 : Int32).toUInt32 &&& Int32.toUInt32 31)).toInt32)) &&& (252645135 : Int32)).toUInt32 >>> ((8 : Int32).toUInt32 &&& Int32.toUInt32 31)).toInt32)).toUInt32 >>> ((16 : Int32).toUInt32 &&& Int32.toUInt32 31)).toInt32)) &&& (63 : Int32)))) (mk vi vl)) : wp X (d + 1) k_J_bitCount 0 0 0 [some (.int x0)] [] (mk vi vl) post :=
  wr_iload_n (q := 0) (by decide +kernel) rfl rfl <|
  wr_iload_n (q := 0) (by decide +kernel) rfl rfl <|
  wr_iconst (n := 1) (v := (1 : Int32)) (by decide +kernel) (by decide) <|
  wr_iushr (by decide +kernel) <|
  wr_ldcw (i := 265) (v := (1431655765 : Int32)) (by decide +kernel) lk_J_265 <|
  wr_iand (by decide +kernel) <|
  wr_isub (by decide +kernel) <|
  wr_istore_n (q := 0) (by decide +kernel) rfl (by decide) <|
  wr_iload_n (q := 0) (by decide +kernel) rfl rfl <|
  wr_ldcw (i := 266) (v := (858993459 : Int32)) (by decide +kernel) lk_J_266 <|
  wr_iand (by decide +kernel) <|
  wr_iload_n (q := 0) (by decide +kernel) rfl rfl <|
  wr_iconst (n := 2) (v := (2 : Int32)) (by decide +kernel) (by decide) <|
  wr_iushr (by decide +kernel) <|
  wr_ldcw (i := 266) (v := (858993459 : Int32)) (by decide +kernel) lk_J_266 <|
  wr_iand (by decide +kernel) <|
  wr_iadd (by decide +kernel) <|
  wr_istore_n (q := 0) (by decide +kernel) rfl (by decide) <|
  wr_iload_n (q := 0) (by decide +kernel) rfl rfl <|
  wr_iload_n (q := 0) (by decide +kernel) rfl rfl <|
  wr_iconst (n := 4) (v := (4 : Int32)) (by decide +kernel) (by decide) <|
  wr_iushr (by decide +kernel) <|
  wr_iadd (by decide +kernel) <|
  wr_ldcw (i := 267) (v := (252645135 : Int32)) (by decide +kernel) lk_J_267 <|
  wr_iand (by decide +kernel) <|
  wr_istore_n (q := 0) (by decide +kernel) rfl (by decide) <|
  wr_iload_n (q := 0) (by decide +kernel) rfl rfl <|
  wr_iload_n (q := 0) (by decide +kernel) rfl rfl <|
  wr_bipush (n := 8) (v := (8 : Int32)) (by decide +kernel) (by decide) <|
  wr_iushr (by decide +kernel) <|
  wr_iadd (by decide +kernel) <|
  wr_istore_n (q := 0) (by decide +kernel) rfl (by decide) <|
  wr_iload_n (q := 0) (by decide +kernel) rfl rfl <|
  wr_iload_n (q := 0) (by decide +kernel) rfl rfl <|
  wr_bipush (n := 16) (v := (16 : Int32)) (by decide +kernel) (by decide) <|
  wr_iushr (by decide +kernel) <|
  wr_iadd (by decide +kernel) <|
  wr_istore_n (q := 0) (by decide +kernel) rfl (by decide) <|
  wr_iload_n (q := 0) (by decide +kernel) rfl rfl <|
  wr_bipush (n := 63) (v := (63 : Int32)) (by decide +kernel) (by decide) <|
  wr_iand (by decide +kernel) <|
  wr_ret (r := some (.int ((((((((x0 - (((x0.toUInt32 >>> ((1 : Int32).toUInt32 &&& Int32.toUInt32 31)).toInt32) &&& (1431655765 : Int32))) &&& (858993459 : Int32)) + ((((x0 - (((x0.toUInt32 >>> ((1 : Int32).toUInt32 &&& Int32.toUInt32 31)).toInt32) &&& (1431655765 : Int32))).toUInt32 >>> ((2 : Int32).toUInt32 &&& Int32.toUInt32 31)).toInt32) &&& (858993459 : Int32))) + (((((x0 - (((x0.toUInt32 >>> ((1 : Int32).toUInt32 &&& Int32.toUInt32 31)).toInt32) &&& (1431655765 : Int32))) &&& (858993459 : Int32)) + ((((x0 - (((x0.toUInt32 >>> ((1 : Int32).toUInt32 &&& Int32.toUInt32 31)).toInt32) &&& (1431655765 : Int32))).toUInt32 >>> ((2 : Int32).toUInt32 &&& Int32.toUInt32 31)).toInt32) &&& (858993459 : Int32))).toUInt32 >>> ((4 : Int32).toUInt32 &&& Int32.toUInt32 31)).toInt32)) &&& (252645135 : Int32)) + (((((((x0 - (((x0.toUInt32 >>> ((1 : Int32).toUInt32 &&& Int32.toUInt32 31)).toInt32) &&& (1431655765 : Int32))) &&& (858993459 : Int32)) + ((((x0 - (((x0.toUInt32 >>> ((1 : Int32).toUInt32 &&& Int32.toUInt32 31)).toInt32) &&& (1431655765 : Int32))).toUInt32 >>> ((2 : Int32).toUInt32 &&& Int32.toUInt32 31)).toInt32) &&& (858993459 : Int32))) + (((((x0 - (((x0.toUInt32 >>> ((1 : Int32).toUInt32 &&& Int32.toUInt32 31)).toInt32) &&& (1431655765 : Int32))) &&& (858993459 : Int32)) + ((((x0 - (((x0.toUInt32 >>> ((1 : Int32).toUInt32 &&& Int32.toUInt32 31)).toInt32) &&& (1431655765 : Int32))).toUInt32 >>> ((2 : Int32).toUInt32 &&& Int32.toUInt32 31)).toInt32) &&& (858993459 : Int32))).toUInt32 >>> ((4 : Int32).toUInt32 &&& Int32.toUInt32 31)).toInt32)) &&& (252645135 : Int32)).toUInt32 >>> ((8 : Int32).toUInt32 &&& Int32.toUInt32 31)).toInt32)) + ((((((((x0 - (((x0.toUInt32 >>> ((1 : Int32).toUInt32 &&& Int32.toUInt32 31)).toInt32) &&& (1431655765 : Int32))) &&& (858993459 : Int32)) + ((((x0 - (((x0.toUInt32 >>> ((1 : Int32).toUInt32 &&& Int32.toUInt32 31)).toInt32) &&& (1431655765 : Int32))).toUInt32 >>> ((2 : Int32).toUInt32 &&& Int32.toUInt32 31)).toInt32) &&& (858993459 : Int32))) + (((((x0 - (((x0.toUInt32 >>> ((1 : Int32).toUInt32 &&& Int32.toUInt32 31)).toInt32) &&& (1431655765 : Int32))) &&& (858993459 : Int32)) + ((((x0 - (((x0.toUInt32 >>> ((1 : Int32).toUInt32 &&& Int32.toUInt32 31)).toInt32) &&& (1431655765 : Int32))).toUInt32 >>> ((2 : Int32).toUInt32 &&& Int32.toUInt32 31)).toInt32) &&& (858993459 : Int32))).toUInt32 >>> ((4 : Int32).toUInt32 &&& Int32.toUInt32 31)).toInt32)) &&& (252645135 : Int32)) + (((((((x0 - (((x0.toUInt32 >>> ((1 : Int32).toUInt32 &&& Int32.toUInt32 31)).toInt32) &&& (1431655765 : Int32))) &&& (858993459 : Int32)) + ((((x0 - (((x0.toUInt32 >>> ((1 : Int32).toUInt32 &&& Int32.toUInt32 31)).toInt32) &&& (1431655765 : Int32))).toUInt32 >>> ((2 : Int32).toUInt32 &&& Int32.toUInt32 31)).toInt32) &&& (858993459 : Int32))) + (((((x0 - (((x0.toUInt32 >>> ((1 : Int32).toUInt32 &&& Int32.toUInt32 31)).toInt32) &&& (1431655765 : Int32))) &&& (858993459 : Int32)) + ((((x0 - (((x0.toUInt32 >>> ((1 : Int32).toUInt32 &&& Int32.toUInt32 31)).toInt32) &&& (1431655765 : Int32))).toUInt32 >>> ((2 : Int32).toUInt32 &&& Int32.toUInt32 31)).toInt32) &&& (858993459 : Int32))).toUInt32 >>> ((4 : Int32).toUInt32 &&& Int32.toUInt32 31)).toInt32)) &&& (252645135 : Int32)).toUInt32 >>> ((8 : Int32).toUInt32 &&& Int32.toUInt32 31)).toInt32)).toUInt32 >>> ((16 : Int32).toUInt32 &&& Int32.toUInt32 31)).toInt32)) &&& (63 : Int32)))) (Or.inr (Or.inl ⟨_, rfl, (by decide +kernel), (Or.inl rfl)⟩)) k1
theorem b_J_numberOfTrailingZeros_0 {X : aX} {d : Nat} {post : aO} {vi : Nat → Nat → Int32} {vl : Nat → Nat → Int64} {x0 : Int32} (k1 : 0 < ((x0 ^^^ (-1 : Int32)) &&& (x0 - (1 : Int32))) → wp X (d + 1) k_J_numberOfTrailingZeros 0 0 17 [some (.int ((x0 ^^^ (-1 : Int32)) &&& (x0 - (1 : Int32)))), none] [] (mk vi vl) post) (k2 : ¬ 0 < ((x0 ^^^ (-1 : Int32)) &&& (x0 - (1 : Int32))) → wp X (d + 1) k_J_numberOfTrailingZeros 0 0 12 [some (.int ((x0 ^^^ (-1 : Int32)) &&& (x0 - (1 : Int32)))), none] [] (mk vi vl) post) : wp X (d + 1) k_J_numberOfTrailingZeros 0 0 0 [some (.int x0), none] [] (mk vi vl) post :=
  wr_iload_n (q := 0) (by decide +kernel) rfl rfl <|
  wr_iconst (n := -1) (v := (-1 : Int32)) (by decide +kernel) (by decide) <|
  wr_ixor (by decide +kernel) <|
  wr_iload_n (q := 0) (by decide +kernel) rfl rfl <|
  wr_iconst (n := 1) (v := (1 : Int32)) (by decide +kernel) (by decide) <|
  wr_isub (by decide +kernel) <|
  wr_iand (by decide +kernel) <|
  wr_istore_n (q := 0) (by decide +kernel) rfl (by decide) <|
  wr_iload_n (q := 0) (by decide +kernel) rfl rfl <|
  wr_if_gt (off := 8) (t := 17) (by decide +kernel) (by decide) k1 k2
theorem b_J_numberOfTrailingZeros_12 {X : aX} {d : Nat} {post : aO} {vi : Nat → Nat → Int32} {vl : Nat → Nat → Int64} {x0 : Int32} {o1 : Option Value} (k1 : post (some (.int (x0 &&& (32 : Int32)))) (mk vi vl)) : wp X (d + 1) k_J_numberOfTrailingZeros 0 0 12 [some (.int x0), o1] [] (mk vi vl) post :=
  wr_iload_n (q := 0) (by decide +kernel) rfl rfl <|
  wr_bipush (n := 32) (v := (32 : Int32)) (by decide +kernel) (by decide) <|
  wr_iand (by decide +kernel) <|
  wr_ret (r := some (.int (x0 &&& (32 : Int32)))) (Or.inr (Or.inl ⟨_, rfl, (by decide +kernel), (Or.inl rfl)⟩)) k1
theorem b_J_numberOfTrailingZeros_17 {X : aX} {d : Nat} {post : aO} {vi : Nat → Nat → Int32} {vl : Nat → Nat → Int64} {x0 : Int32} {o1 : Option Value} (k1 : x0 ≤ (65536 : Int32) → wp X (d + 1) k_J_numberOfTrailingZeros 0 0 34 [some (.int x0), some (.int (1 : Int32))] [] (mk vi vl) post) (k2 : ¬ x0 ≤ (65536 : Int32) → wp X (d + 1) k_J_numberOfTrailingZeros 0 0 26 [some (.int x0), some (.int (1 : Int32))] [] (mk vi vl) post) : wp X (d + 1) k_J_numberOfTrailingZeros 0 0 17 [some (.int x0), o1] [] (mk vi vl) post :=
  wr_iconst (n := 1) (v := (1 : Int32)) (by decide +kernel) (by decide) <|
  wr_istore_n (q := 1) (by decide +kernel) rfl (by decide) <|
  wr_iload_n (q := 0) (by decide +kernel) rfl rfl <|
  wr_ldcw (i := 264) (v := (65536 : Int32)) (by decide +kernel) lk_J_264 <|
  wr_icmp_le (off := 11) (t := 34) (by decide +kernel) (by decide) k1 k2
theorem b_J_numberOfTrailingZeros_26 {X : aX} {d : Nat} {post : aO} {vi : Nat → Nat → Int32} {vl : Nat → Nat → Int64} {x0 x1 : Int32} (k1 : wp X (d + 1) k_J_numberOfTrailingZeros 0 0 34 [some (.int ((x0.toUInt32 >>> ((16 : Int32).toUInt32 &&& Int32.toUInt32 31)).toInt32)), some (.int (x1 + (16 : Int32)))] [] (mk vi vl) post) : wp X (d + 1) k_J_numberOfTrailingZeros 0 0 26 [some (.int x0), some (.int x1)] [] (mk vi vl) post :=
  wr_iinc (i := 1) (n := 16) (v := (16 : Int32)) (by decide +kernel) rfl (by decide) (by decide) <|
  wr_iload_n (q := 0) (by decide +kernel) rfl rfl <|
  wr_bipush (n := 16) (v := (16 : Int32)) (by decide +kernel) (by decide) <|
  wr_iushr (by decide +kernel) <|
  wr_istore_n (q := 0) (by decide +kernel) rfl (by decide) <|
  k1
theorem b_J_numberOfTrailingZeros_34 {X : aX} {d : Nat} {post : aO} {vi : Nat → Nat → Int32} {vl : Nat → Nat → Int64} {x0 x1 : Int32} (k1 : x0 ≤ (256 : Int32) → wp X (d + 1) k_J_numberOfTrailingZeros 0 0 49 [some (.int x0), some (.int x1)] [] (mk vi vl) post) (k2 : ¬ x0 ≤ (256 : Int32) → wp X (d + 1) k_J_numberOfTrailingZeros 0 0 41 [some (.int x0), some (.int x1)] [] (mk vi vl) post) : wp X (d + 1) k_J_numberOfTrailingZeros 0 0 34 [some (.int x0), some (.int x1)] [] (mk vi vl) post :=
  wr_iload_n (q := 0) (by decide +kernel) rfl rfl <|
  wr_sipush (n := 256) (v := (256 : Int32)) (by decide +kernel) (by decide) <|
  wr_icmp_le (off := 11) (t := 49) (by decide +kernel) (by decide) k1 k2
theorem b_J_numberOfTrailingZeros_41 {X : aX} {d : Nat} {post : aO} {vi : Nat → Nat → Int32} {vl : Nat → Nat → Int64} {x0 x1 : Int32} (k1 : wp X (d + 1) k_J_numberOfTrailingZeros 0 0 49 [some (.int ((x0.toUInt32 >>> ((8 : Int32).toUInt32 &&& Int32.toUInt32 31)).toInt32)), some (.int (x1 + (8 : Int32)))] [] (mk vi vl) post) : wp X (d + 1) k_J_numberOfTrailingZeros 0 0 41 [some (.int x0), some (.int x1)] [] (mk vi vl) post :=
  wr_iinc (i := 1) (n := 8) (v := (8 : Int32)) (by decide +kernel) rfl (by decide) (by decide) <|
  wr_iload_n (q := 0) (by decide +kernel) rfl rfl <|
  wr_bipush (n := 8) (v := (8 : Int32)) (by decide +kernel) (by decide) <|
  wr_iushr (by decide +kernel) <|
  wr_istore_n (q := 0) (by decide +kernel) rfl (by decide) <|
  k1
theorem b_J_numberOfTrailingZeros_49 {X : aX} {d : Nat} {post : aO} {vi : Nat → Nat → Int32} {vl : Nat → Nat → Int64} {x0 x1 : Int32} (k1 : x0 ≤ (16 : Int32) → wp X (d + 1) k_J_numberOfTrailingZeros 0 0 62 [some (.int x0), some (.int x1)] [] (mk vi vl) post) (k2 : ¬ x0 ≤ (16 : Int32) → wp X (d + 1) k_J_numberOfTrailingZeros 0 0 55 [some (.int x0), some (.int x1)] [] (mk vi vl) post) : wp X (d + 1) k_J_numberOfTrailingZeros 0 0 49 [some (.int x0), some (.int x1)] [] (mk vi vl) post :=
  wr_iload_n (q := 0) (by decide +kernel) rfl rfl <|
  wr_bipush (n := 16) (v := (16 : Int32)) (by decide +kernel) (by decide) <|
  wr_icmp_le (off := 10) (t := 62) (by decide +kernel) (by decide) k1 k2
theorem b_J_numberOfTrailingZeros_55 {X : aX} {d : Nat} {post : aO} {vi : Nat → Nat → Int32} {vl : Nat → Nat → Int64} {x0 x1 : Int32} (k1 : wp X (d + 1) k_J_numberOfTrailingZeros 0 0 62 [some (.int ((x0.toUInt32 >>> ((4 : Int32).toUInt32 &&& Int32.toUInt32 31)).toInt32)), some (.int (x1 + (4 : Int32)))] [] (mk vi vl) post) : wp X (d + 1) k_J_numberOfTrailingZeros 0 0 55 [some (.int x0), some (.int x1)] [] (mk vi vl) post :=
  wr_iinc (i := 1) (n := 4) (v := (4 : Int32)) (by decide +kernel) rfl (by decide) (by decide) <|
  wr_iload_n (q := 0) (by decide +kernel) rfl rfl <|
  wr_iconst (n := 4) (v := (4 : Int32)) (by decide +kernel) (by decide) <|
  wr_iushr (by decide +kernel) <|
  wr_istore_n (q := 0) (by decide +kernel) rfl (by decide) <|
  k1
theorem b_J_numberOfTrailingZeros_62 {X : aX} {d : Nat} {post : aO} {vi : Nat → Nat → Int32} {vl : Nat → Nat → Int64} {x0 x1 : Int32} (k1 : x0 ≤ (4 : Int32) → wp X (d + 1) k_J_numberOfTrailingZeros 0 0 74 [some (.int x0), some (.int x1)] [] (mk vi vl) post) (k2 : ¬ x0 ≤ (4 : Int32) → wp X (d + 1) k_J_numberOfTrailingZeros 0 0 67 [some (.int x0), some (.int x1)] [] (mk vi vl) post) : wp X (d + 1) k_J_numberOfTrailingZeros 0 0 62 [some (.int x0), some (.int x1)] [] (mk vi vl) post :=
  wr_iload_n (q := 0) (by decide +kernel) rfl rfl <|
  wr_iconst (n := 4) (v := (4 : Int32)) (by decide +kernel) (by decide) <|
  wr_icmp_le (off := 10) (t := 74) (by decide +kernel) (by decide) k1 k2
theorem b_J_numberOfTrailingZeros_67 {X : aX} {d : Nat} {post : aO} {vi : Nat → Nat → Int32} {vl : Nat → Nat → Int64} {x0 x1 : Int32} (k1 : wp X (d + 1) k_J_numberOfTrailingZeros 0 0 74 [some (.int ((x0.toUInt32 >>> ((2 : Int32).toUInt32 &&& Int32.toUInt32 31)).toInt32)), some (.int (x1 + (2 : Int32)))] [] (mk vi vl) post) : wp X (d + 1) k_J_numberOfTrailingZeros 0 0 67 [some (.int x0), some (.int x1)] [] (mk vi vl) post :=
  wr_iinc (i := 1) (n := 2) (v := (2 : Int32)) (by decide +kernel) rfl (by decide) (by decide) <|
  wr_iload_n (q := 0) (by decide +kernel) rfl rfl <|
  wr_iconst (n := 2) (v := (2 : Int32)) (by decide +kernel) (by decide) <|
  wr_iushr (by decide +kernel) <|
  wr_istore_n (q := 0) (by decide +kernel) rfl (by decide) <|
  k1
theorem b_J_numberOfTrailingZeros_74 {X : aX} {d : Nat} {post : aO} {vi : Nat → Nat → Int32} {vl : Nat → Nat → Int64} {x0 x1 : Int32} (k1 : post (some (.int (x1 + ((x0.toUInt32 >>> ((1 : Int32).toUInt32 &&& Int32.toUInt32 31)).toInt32)))) (mk vi vl)) : wp X (d + 1) k_J_numberOfTrailingZeros 0 0 74 [some (.int x0), some (.int x1)] [] (mk vi vl) post :=
  wr_iload_n (q := 1) (by decide +kernel) rfl rfl <|
  wr_iload_n (q := 0) (by decide +kernel) rfl rfl <|
  wr_iconst (n := 1) (v := (1 : Int32)) (by decide +kernel) (by decide) <|
  wr_iushr (by decide +kernel) <|
  wr_iadd (by decide +kernel) <|
  wr_ret (r := some (.int (x1 + ((x0.toUInt32 >>> ((1 : Int32).toUInt32 &&& Int32.toUInt32 31)).toInt32)))) (Or.inr (Or.inl ⟨_, rfl, (by decide +kernel), (Or.inl rfl)⟩)) k1
theorem b_P_begin_0 {X : aX} {d : Nat} {post : aO} {vi : Nat → Nat → Int32} {vl : Nat → Nat → Int64} {x1 x2 : Int32} (q1 : x1 = 0 ∨ x1 = 1) (k1 : ∀ w, w = up2 vi 26 4 x1 → wp X (d + 1) k_P_begin 0 0 5 [some (.ref 26), some (.int x1), some (.int x2)] [] (mk w vl) post) : wp X (d + 1) k_P_begin 0 0 0 [some (.ref 26), some (.int x1), some (.int x2)] [] (mk vi vl) post :=
  wr_aload_n (q := 0) (by decide +kernel) rfl rfl <|
  wr_iload_n (q := 1) (by decide +kernel) rfl rfl <|
  wr_putZ (ci := 1) (k0 := 4) (idx := 29) lq_26 sq_26 (by decide) (by decide) lf_P_29 rfl q1 (by decide +kernel) <|
  k1 _ rfl
theorem b_P_begin_5 {X : aX} {d : Nat} {post : aO} {vi : Nat → Nat → Int32} {vl : Nat → Nat → Int64} {x1 x2 : Int32} (q1 : x2 = 0 ∨ x2 = 1) (k1 : ∀ w, w = up2 vi 26 5 x2 → wp X (d + 1) k_P_begin 0 0 10 [some (.ref 26), some (.int x1), some (.int x2)] [] (mk w vl) post) : wp X (d + 1) k_P_begin 0 0 5 [some (.ref 26), some (.int x1), some (.int x2)] [] (mk vi vl) post :=
  wr_aload_n (q := 0) (by decide +kernel) rfl rfl <|
  wr_iload_n (q := 2) (by decide +kernel) rfl rfl <|
  wr_putZ (ci := 1) (k0 := 5) (idx := 33) lq_26 sq_26 (by decide) (by decide) lf_P_33 rfl q1 (by decide +kernel) <|
  k1 _ rfl
theorem b_P_begin_10 {X : aX} {d : Nat} {post : aO} {vi : Nat → Nat → Int32} {vl : Nat → Nat → Int64} {x1 x2 : Int32} (k1 : CallOk X d 0 0 k_J_fill [.ref 39, .int (63 : Int32)] (mk vi vl) (fun r N' => wp X (d + 1) k_P_begin 0 0 19 [some (.ref 26), some (.int x1), some (.int x2)] (pR r []) N' post)) : wp X (d + 1) k_P_begin 0 0 10 [some (.ref 26), some (.int x1), some (.int x2)] [] (mk vi vl) post :=
  wr_aload_n (q := 0) (by decide +kernel) rfl rfl <|
  wr_getR2 (b := 39) (ci := 1) (k0 := 2) (idx := 22) lq_26 sq_26 (by decide) (by decide) lf_P_22 rfl vq_26_2 lq_39 (by decide +kernel) <|
  wr_bipush (n := 63) (v := (63 : Int32)) (by decide +kernel) (by decide) <|
  wr_invS (mid2 := 11) (idx := 42) (b1 := 0) (b2 := 0) (c1 := 0) (c2 := 0) (as := [.ref 39, .int (63 : Int32)]) (st := []) pl_11 rfl (Nat.le_of_ble_eq_true rfl) rfl rfl lm_P_42 it_11 (by decide +kernel) k1
theorem b_P_begin_19 {X : aX} {d : Nat} {post : aO} {vi : Nat → Nat → Int32} {vl : Nat → Nat → Int64} {x1 x2 : Int32} (k1 : post none (mk vi vl)) : wp X (d + 1) k_P_begin 0 0 19 [some (.ref 26), some (.int x1), some (.int x2)] [] (mk vi vl) post :=
  wr_ret (r := none) (Or.inl ⟨rfl, (by decide +kernel), rfl⟩) k1
theorem b_P_want_0 {X : aX} {d : Nat} {post : aO} {vi : Nat → Nat → Int32} {vl : Nat → Nat → Int64} {x1 x2 : Int32} (q1 : vp_in x1 5) (k1 : ∀ w, w = up2 vi 39 x1.toNatClampNeg x2 → wp X (d + 1) k_P_want 0 0 7 [some (.ref 26), some (.int x1), some (.int x2)] [] (mk w vl) post) : wp X (d + 1) k_P_want 0 0 0 [some (.ref 26), some (.int x1), some (.int x2)] [] (mk vi vl) post :=
  wr_aload_n (q := 0) (by decide +kernel) rfl rfl <|
  wr_getR2 (b := 39) (ci := 1) (k0 := 2) (idx := 22) lq_26 sq_26 (by decide) (by decide) lf_P_22 rfl vq_26_2 lq_39 (by decide +kernel) <|
  wr_iload_n (q := 1) (by decide +kernel) rfl rfl <|
  wr_iload_n (q := 2) (by decide +kernel) rfl rfl <|
  wr_iast lq_39 sq_39 q1 (by decide +kernel) <|
  k1 _ rfl
theorem b_P_want_7 {X : aX} {d : Nat} {post : aO} {vi : Nat → Nat → Int32} {vl : Nat → Nat → Int64} {x1 x2 : Int32} (k1 : post none (mk vi vl)) : wp X (d + 1) k_P_want 0 0 7 [some (.ref 26), some (.int x1), some (.int x2)] [] (mk vi vl) post :=
  wr_ret (r := none) (Or.inl ⟨rfl, (by decide +kernel), rfl⟩) k1
theorem b_P_seek_0 {X : aX} {d : Nat} {post : aO} {vi : Nat → Nat → Int32} {vl : Nat → Nat → Int64} {v1 : Nat} {x2 : Int32} (k1 : CallOk X d 0 0 k_C_take [.ref 27, .ref v1] (mk vi vl) (fun r N' => wp X (d + 1) k_P_seek 0 0 8 [some (.ref 26), some (.ref v1), some (.int x2)] (pR r []) N' post)) : wp X (d + 1) k_P_seek 0 0 0 [some (.ref 26), some (.ref v1), some (.int x2)] [] (mk vi vl) post :=
  wr_aload_n (q := 0) (by decide +kernel) rfl rfl <|
  wr_getR2 (b := 27) (ci := 1) (k0 := 0) (idx := 12) lq_26 sq_26 (by decide) (by decide) lf_P_12 rfl vq_26_0 lq_27 (by decide +kernel) <|
  wr_aload_n (q := 1) (by decide +kernel) rfl rfl <|
  wr_invV (a := 27) (ci := 0) (mid2 := 38) (idx := 48) (b1 := 0) (b2 := 0) (c1 := 0) (c2 := 0) (as := [.ref v1]) (st := []) pl_38 rfl (Nat.le_of_ble_eq_true rfl) rfl rfl lq_27 sq_27 (by decide) rfl lm_P_48 im_38 is_38 (by decide +kernel) k1
theorem b_P_seek_8 {X : aX} {d : Nat} {post : aO} {vi : Nat → Nat → Int32} {vl : Nat → Nat → Int64} {v1 : Nat} {x2 : Int32} (k1 : ∀ w, w = up2 vi 26 3 x2 → wp X (d + 1) k_P_seek 0 0 13 [some (.ref 26), some (.ref v1), some (.int x2)] [] (mk w vl) post) : wp X (d + 1) k_P_seek 0 0 8 [some (.ref 26), some (.ref v1), some (.int x2)] [] (mk vi vl) post :=
  wr_aload_n (q := 0) (by decide +kernel) rfl rfl <|
  wr_iload_n (q := 2) (by decide +kernel) rfl rfl <|
  wr_putI (ci := 1) (k0 := 3) (idx := 25) lq_26 sq_26 (by decide) (by decide) lf_P_25 rfl (by decide +kernel) <|
  k1 _ rfl
theorem b_P_seek_13 {X : aX} {d : Nat} {post : aO} {vi : Nat → Nat → Int32} {vl : Nat → Nat → Int64} {v1 : Nat} {x2 : Int32} (k1 : ∀ w, w = up2 vi 26 6 (0 : Int32) → wp X (d + 1) k_P_seek 0 0 18 [some (.ref 26), some (.ref v1), some (.int x2)] [] (mk w vl) post) : wp X (d + 1) k_P_seek 0 0 13 [some (.ref 26), some (.ref v1), some (.int x2)] [] (mk vi vl) post :=
  wr_aload_n (q := 0) (by decide +kernel) rfl rfl <|
  wr_iconst (n := 0) (v := (0 : Int32)) (by decide +kernel) (by decide) <|
  wr_putI (ci := 1) (k0 := 6) (idx := 36) lq_26 sq_26 (by decide) (by decide) lf_P_36 rfl (by decide +kernel) <|
  k1 _ rfl
theorem b_P_seek_18 {X : aX} {d : Nat} {post : aO} {vi : Nat → Nat → Int32} {vl : Nat → Nat → Int64} {v1 : Nat} {x2 : Int32} (k1 : CallOk X d 0 0 k_P_goOn [.ref 26, .int (0 : Int32), .int (0 : Int32)] (mk vi vl) (fun r N' => wp X (d + 1) k_P_seek 0 0 24 [some (.ref 26), some (.ref v1), some (.int x2)] (pR r []) N' post)) : wp X (d + 1) k_P_seek 0 0 18 [some (.ref 26), some (.ref v1), some (.int x2)] [] (mk vi vl) post :=
  wr_aload_n (q := 0) (by decide +kernel) rfl rfl <|
  wr_iconst (n := 0) (v := (0 : Int32)) (by decide +kernel) (by decide) <|
  wr_iconst (n := 0) (v := (0 : Int32)) (by decide +kernel) (by decide) <|
  wr_invV (a := 26) (ci := 1) (mid2 := 83) (idx := 52) (b1 := 0) (b2 := 0) (c1 := 0) (c2 := 0) (as := [.int (0 : Int32), .int (0 : Int32)]) (st := []) pl_83 rfl (Nat.le_of_ble_eq_true rfl) rfl rfl lq_26 sq_26 (by decide) rfl lm_P_52 im_83 is_83 (by decide +kernel) k1
theorem b_P_seek_24 {X : aX} {d : Nat} {post : aO} {vi : Nat → Nat → Int32} {vl : Nat → Nat → Int64} {v1 : Nat} {x2 : Int32} (k1 : post (some (.int (vi 26 6))) (mk vi vl)) : wp X (d + 1) k_P_seek 0 0 24 [some (.ref 26), some (.ref v1), some (.int x2)] [] (mk vi vl) post :=
  wr_aload_n (q := 0) (by decide +kernel) rfl rfl <|
  wr_getI (ci := 1) (k0 := 6) (idx := 36) lq_26 sq_26 (by decide) (by decide) lf_P_36 (Or.inl rfl) (by decide +kernel) <|
  wr_ret (r := some (.int (vi 26 6))) (Or.inr (Or.inl ⟨_, rfl, (by decide +kernel), (Or.inl rfl)⟩)) k1
theorem b_P_goOn_0 {X : aX} {d : Nat} {post : aO} {vi : Nat → Nat → Int32} {vl : Nat → Nat → Int64} {x1 x2 : Int32} (k1 : (vi 27 0) ≤ x1 → wp X (d + 1) k_P_goOn 0 0 16 [some (.ref 26), some (.int x1), some (.int x2), none, none, none, none] [] (mk vi vl) post) (k2 : ¬ (vi 27 0) ≤ x1 → wp X (d + 1) k_P_goOn 0 0 11 [some (.ref 26), some (.int x1), some (.int x2), none, none, none, none] [] (mk vi vl) post) : wp X (d + 1) k_P_goOn 0 0 0 [some (.ref 26), some (.int x1), some (.int x2), none, none, none, none] [] (mk vi vl) post :=
  wr_iload_n (q := 1) (by decide +kernel) rfl rfl <|
  wr_aload_n (q := 0) (by decide +kernel) rfl rfl <|
  wr_getR2 (b := 27) (ci := 1) (k0 := 0) (idx := 12) lq_26 sq_26 (by decide) (by decide) lf_P_12 rfl vq_26_0 lq_27 (by decide +kernel) <|
  wr_getI (ci := 0) (k0 := 0) (idx := 56) lq_27 sq_27 (by decide) (by decide) lf_P_56 (Or.inl rfl) (by decide +kernel) <|
  wr_icmp_ge (off := 8) (t := 16) (by decide +kernel) (by decide) k1 k2
theorem b_P_goOn_11 {X : aX} {d : Nat} {post : aO} {vi : Nat → Nat → Int32} {vl : Nat → Nat → Int64} {x1 x2 : Int32} {o3 o4 o5 o6 : Option Value} (k1 : x1 < (5 : Int32) → wp X (d + 1) k_P_goOn 0 0 21 [some (.ref 26), some (.int x1), some (.int x2), o3, o4, o5, o6] [] (mk vi vl) post) (k2 : ¬ x1 < (5 : Int32) → wp X (d + 1) k_P_goOn 0 0 16 [some (.ref 26), some (.int x1), some (.int x2), o3, o4, o5, o6] [] (mk vi vl) post) : wp X (d + 1) k_P_goOn 0 0 11 [some (.ref 26), some (.int x1), some (.int x2), o3, o4, o5, o6] [] (mk vi vl) post :=
  wr_iload_n (q := 1) (by decide +kernel) rfl rfl <|
  wr_iconst (n := 5) (v := (5 : Int32)) (by decide +kernel) (by decide) <|
  wr_icmp_lt (off := 8) (t := 21) (by decide +kernel) (by decide) k1 k2
theorem b_P_goOn_16 {X : aX} {d : Nat} {post : aO} {vi : Nat → Nat → Int32} {vl : Nat → Nat → Int64} {x1 x2 : Int32} {o3 o4 o5 o6 : Option Value} (k1 : CallOk X d 0 0 k_P_add [.ref 26] (mk vi vl) (fun r N' => wp X (d + 1) k_P_goOn 0 0 20 [some (.ref 26), some (.int x1), some (.int x2), o3, o4, o5, o6] (pR r []) N' post)) : wp X (d + 1) k_P_goOn 0 0 16 [some (.ref 26), some (.int x1), some (.int x2), o3, o4, o5, o6] [] (mk vi vl) post :=
  wr_aload_n (q := 0) (by decide +kernel) rfl rfl <|
  wr_invV (a := 26) (ci := 1) (mid2 := 84) (idx := 59) (b1 := 0) (b2 := 0) (c1 := 0) (c2 := 0) (as := []) (st := []) pl_84 rfl (Nat.le_of_ble_eq_true rfl) rfl rfl lq_26 sq_26 (by decide) rfl lm_P_59 im_84 is_84 (by decide +kernel) k1
theorem b_P_goOn_20 {X : aX} {d : Nat} {post : aO} {vi : Nat → Nat → Int32} {vl : Nat → Nat → Int64} {x1 x2 : Int32} {o3 o4 o5 o6 : Option Value} (k1 : post none (mk vi vl)) : wp X (d + 1) k_P_goOn 0 0 20 [some (.ref 26), some (.int x1), some (.int x2), o3, o4, o5, o6] [] (mk vi vl) post :=
  wr_ret (r := none) (Or.inl ⟨rfl, (by decide +kernel), rfl⟩) k1
theorem b_P_goOn_21 {X : aX} {d : Nat} {post : aO} {vi : Nat → Nat → Int32} {vl : Nat → Nat → Int64} {x1 x2 : Int32} {o3 o4 o5 o6 : Option Value} (q1 : vp_in x1 5) (q2 : vp_in x1 5) (k1 : wp X (d + 1) k_P_goOn 0 0 45 [some (.ref 26), some (.int x1), some (.int x2), some (.int (vi 28 x1.toNatClampNeg)), some (.int (vi 29 x1.toNatClampNeg)), some (.int (0 : Int32)), o6] [] (mk vi vl) post) : wp X (d + 1) k_P_goOn 0 0 21 [some (.ref 26), some (.int x1), some (.int x2), o3, o4, o5, o6] [] (mk vi vl) post :=
  wr_aload_n (q := 0) (by decide +kernel) rfl rfl <|
  wr_getR2 (b := 27) (ci := 1) (k0 := 0) (idx := 12) lq_26 sq_26 (by decide) (by decide) lf_P_12 rfl vq_26_0 lq_27 (by decide +kernel) <|
  wr_getR2 (b := 28) (ci := 0) (k0 := 1) (idx := 62) lq_27 sq_27 (by decide) (by decide) lf_P_62 rfl vq_27_1 lq_28 (by decide +kernel) <|
  wr_iload_n (q := 1) (by decide +kernel) rfl rfl <|
  wr_iald lq_28 sq_28 q1 (by decide +kernel) <|
  wr_istore_n (q := 3) (by decide +kernel) rfl (by decide) <|
  wr_aload_n (q := 0) (by decide +kernel) rfl rfl <|
  wr_getR2 (b := 27) (ci := 1) (k0 := 0) (idx := 12) lq_26 sq_26 (by decide) (by decide) lf_P_12 rfl vq_26_0 lq_27 (by decide +kernel) <|
  wr_getR2 (b := 29) (ci := 0) (k0 := 2) (idx := 65) lq_27 sq_27 (by decide) (by decide) lf_P_65 rfl vq_27_2 lq_29 (by decide +kernel) <|
  wr_iload_n (q := 1) (by decide +kernel) rfl rfl <|
  wr_iald lq_29 sq_29 q2 (by decide +kernel) <|
  wr_istore (i := 4) (by decide +kernel) (by decide) <|
  wr_iconst (n := 0) (v := (0 : Int32)) (by decide +kernel) (by decide) <|
  wr_istore (i := 5) (by decide +kernel) (by decide) <|
  k1
theorem b_P_goOn_45 {X : aX} {d : Nat} {post : aO} {vi : Nat → Nat → Int32} {vl : Nat → Nat → Int64} {x1 x2 x3 x4 x5 : Int32} {o6 : Option Value} (k1 : (6 : Int32) < x5 → wp X (d + 1) k_P_goOn 0 0 147 [some (.ref 26), some (.int x1), some (.int x2), some (.int x3), some (.int x4), some (.int x5), o6] [] (mk vi vl) post) (k2 : ¬ (6 : Int32) < x5 → wp X (d + 1) k_P_goOn 0 0 52 [some (.ref 26), some (.int x1), some (.int x2), some (.int x3), some (.int x4), some (.int x5), o6] [] (mk vi vl) post) : wp X (d + 1) k_P_goOn 0 0 45 [some (.ref 26), some (.int x1), some (.int x2), some (.int x3), some (.int x4), some (.int x5), o6] [] (mk vi vl) post :=
  wr_iload (i := 5) (by decide +kernel) rfl <|
  wr_bipush (n := 6) (v := (6 : Int32)) (by decide +kernel) (by decide) <|
  wr_icmp_gt (off := 98) (t := 147) (by decide +kernel) (by decide) k1 k2
theorem b_P_goOn_52 {X : aX} {d : Nat} {post : aO} {vi : Nat → Nat → Int32} {vl : Nat → Nat → Int64} {x1 x2 x3 x4 x5 : Int32} {o6 : Option Value} (k1 : ¬ x5 = (6 : Int32) → wp X (d + 1) k_P_goOn 0 0 63 [some (.ref 26), some (.int x1), some (.int x2), some (.int x3), some (.int x4), some (.int x5), o6] [] (mk vi vl) post) (k2 : x5 = (6 : Int32) → wp X (d + 1) k_P_goOn 0 0 59 [some (.ref 26), some (.int x1), some (.int x2), some (.int x3), some (.int x4), some (.int x5), o6] [] (mk vi vl) post) : wp X (d + 1) k_P_goOn 0 0 52 [some (.ref 26), some (.int x1), some (.int x2), some (.int x3), some (.int x4), some (.int x5), o6] [] (mk vi vl) post :=
  wr_iload (i := 5) (by decide +kernel) rfl <|
  wr_bipush (n := 6) (v := (6 : Int32)) (by decide +kernel) (by decide) <|
  wr_icmp_ne (off := 7) (t := 63) (by decide +kernel) (by decide) k1 k2
theorem b_P_goOn_59 {X : aX} {d : Nat} {post : aO} {vi : Nat → Nat → Int32} {vl : Nat → Nat → Int64} {x1 x2 x3 x4 x5 : Int32} {o6 : Option Value} (k1 : wp X (d + 1) k_P_goOn 0 0 66 [some (.ref 26), some (.int x1), some (.int x2), some (.int x3), some (.int x4), some (.int x5), o6] [.int x2] (mk vi vl) post) : wp X (d + 1) k_P_goOn 0 0 59 [some (.ref 26), some (.int x1), some (.int x2), some (.int x3), some (.int x4), some (.int x5), o6] [] (mk vi vl) post :=
  wr_iload_n (q := 2) (by decide +kernel) rfl rfl <|
  wr_goto (off := 6) (t := 66) (by decide +kernel) (by decide) k1
theorem b_P_goOn_63 {X : aX} {d : Nat} {post : aO} {vi : Nat → Nat → Int32} {vl : Nat → Nat → Int64} {x1 x2 x3 x4 x5 : Int32} {o6 : Option Value} (k1 : wp X (d + 1) k_P_goOn 0 0 66 [some (.ref 26), some (.int x1), some (.int x2), some (.int x3), some (.int x4), some (.int x5), o6] [.int (x2 + (1 : Int32))] (mk vi vl) post) : wp X (d + 1) k_P_goOn 0 0 63 [some (.ref 26), some (.int x1), some (.int x2), some (.int x3), some (.int x4), some (.int x5), o6] [] (mk vi vl) post :=
  wr_iload_n (q := 2) (by decide +kernel) rfl rfl <|
  wr_iconst (n := 1) (v := (1 : Int32)) (by decide +kernel) (by decide) <|
  wr_iadd (by decide +kernel) <|
  k1
theorem b_P_goOn_66 {X : aX} {d : Nat} {post : aO} {vi : Nat → Nat → Int32} {vl : Nat → Nat → Int64} {x1 x2 x3 x4 x5 y0 : Int32} {o6 : Option Value} (k1 : (vi 26 3) < y0 → wp X (d + 1) k_P_goOn 0 0 141 [some (.ref 26), some (.int x1), some (.int x2), some (.int x3), some (.int x4), some (.int x5), some (.int y0)] [] (mk vi vl) post) (k2 : ¬ (vi 26 3) < y0 → wp X (d + 1) k_P_goOn 0 0 77 [some (.ref 26), some (.int x1), some (.int x2), some (.int x3), some (.int x4), some (.int x5), some (.int y0)] [] (mk vi vl) post) : wp X (d + 1) k_P_goOn 0 0 66 [some (.ref 26), some (.int x1), some (.int x2), some (.int x3), some (.int x4), some (.int x5), o6] [.int y0] (mk vi vl) post :=
  wr_istore (i := 6) (by decide +kernel) (by decide) <|
  wr_iload (i := 6) (by decide +kernel) rfl <|
  wr_aload_n (q := 0) (by decide +kernel) rfl rfl <|
  wr_getI (ci := 1) (k0 := 3) (idx := 25) lq_26 sq_26 (by decide) (by decide) lf_P_25 (Or.inl rfl) (by decide +kernel) <|
  wr_icmp_gt (off := 67) (t := 141) (by decide +kernel) (by decide) k1 k2
theorem b_P_goOn_77 {X : aX} {d : Nat} {post : aO} {vi : Nat → Nat → Int32} {vl : Nat → Nat → Int64} {x1 x2 x3 x4 x5 x6 : Int32} (k1 : CallOk X d 0 0 k_P_isAllowed [.ref 26, .int x1, .int x5] (mk vi vl) (fun r N' => wp X (d + 1) k_P_goOn 0 0 84 [some (.ref 26), some (.int x1), some (.int x2), some (.int x3), some (.int x4), some (.int x5), some (.int x6)] (pR r []) N' post)) : wp X (d + 1) k_P_goOn 0 0 77 [some (.ref 26), some (.int x1), some (.int x2), some (.int x3), some (.int x4), some (.int x5), some (.int x6)] [] (mk vi vl) post :=
  wr_aload_n (q := 0) (by decide +kernel) rfl rfl <|
  wr_iload_n (q := 1) (by decide +kernel) rfl rfl <|
  wr_iload (i := 5) (by decide +kernel) rfl <|
  wr_invV (a := 26) (ci := 1) (mid2 := 85) (idx := 68) (b1 := 0) (b2 := 0) (c1 := 0) (c2 := 0) (as := [.int x1, .int x5]) (st := []) pl_85 rfl (Nat.le_of_ble_eq_true rfl) rfl rfl lq_26 sq_26 (by decide) rfl lm_P_68 im_85 is_85 (by decide +kernel) k1
theorem b_P_goOn_84 {X : aX} {d : Nat} {post : aO} {vi : Nat → Nat → Int32} {vl : Nat → Nat → Int64} {x1 x2 x3 x4 x5 x6 y0 : Int32} (k1 : y0 = 0 → wp X (d + 1) k_P_goOn 0 0 141 [some (.ref 26), some (.int x1), some (.int x2), some (.int x3), some (.int x4), some (.int x5), some (.int x6)] [] (mk vi vl) post) (k2 : ¬ y0 = 0 → wp X (d + 1) k_P_goOn 0 0 87 [some (.ref 26), some (.int x1), some (.int x2), some (.int x3), some (.int x4), some (.int x5), some (.int x6)] [] (mk vi vl) post) : wp X (d + 1) k_P_goOn 0 0 84 [some (.ref 26), some (.int x1), some (.int x2), some (.int x3), some (.int x4), some (.int x5), some (.int x6)] [.int y0] (mk vi vl) post :=
  wr_if_eq (off := 57) (t := 141) (by decide +kernel) (by decide) k1 k2
theorem b_P_goOn_87 {X : aX} {d : Nat} {post : aO} {vi : Nat → Nat → Int32} {vl : Nat → Nat → Int64} {x1 x2 x3 x4 x5 x6 : Int32} (k1 : CallOk X d 0 0 k_C_change [.ref 27, .int x1, .int x5] (mk vi vl) (fun r N' => wp X (d + 1) k_P_goOn 0 0 97 [some (.ref 26), some (.int x1), some (.int x2), some (.int x3), some (.int x4), some (.int x5), some (.int x6)] (pR r []) N' post)) : wp X (d + 1) k_P_goOn 0 0 87 [some (.ref 26), some (.int x1), some (.int x2), some (.int x3), some (.int x4), some (.int x5), some (.int x6)] [] (mk vi vl) post :=
  wr_aload_n (q := 0) (by decide +kernel) rfl rfl <|
  wr_getR2 (b := 27) (ci := 1) (k0 := 0) (idx := 12) lq_26 sq_26 (by decide) (by decide) lf_P_12 rfl vq_26_0 lq_27 (by decide +kernel) <|
  wr_iload_n (q := 1) (by decide +kernel) rfl rfl <|
  wr_iload (i := 5) (by decide +kernel) rfl <|
  wr_invV (a := 27) (ci := 0) (mid2 := 62) (idx := 72) (b1 := 0) (b2 := 0) (c1 := 0) (c2 := 0) (as := [.int x1, .int x5]) (st := []) pl_62 rfl (Nat.le_of_ble_eq_true rfl) rfl rfl lq_27 sq_27 (by decide) rfl lm_P_72 im_62 is_62 (by decide +kernel) k1
theorem b_P_goOn_97 {X : aX} {d : Nat} {post : aO} {vi : Nat → Nat → Int32} {vl : Nat → Nat → Int64} {x1 x2 x3 x4 x5 x6 : Int32} (k1 : CallOk X d 0 0 k_C_settle [.ref 27, .int x1] (mk vi vl) (fun r N' => wp X (d + 1) k_P_goOn 0 0 105 [some (.ref 26), some (.int x1), some (.int x2), some (.int x3), some (.int x4), some (.int x5), some (.int x6)] (pR r []) N' post)) : wp X (d + 1) k_P_goOn 0 0 97 [some (.ref 26), some (.int x1), some (.int x2), some (.int x3), some (.int x4), some (.int x5), some (.int x6)] [] (mk vi vl) post :=
  wr_aload_n (q := 0) (by decide +kernel) rfl rfl <|
  wr_getR2 (b := 27) (ci := 1) (k0 := 0) (idx := 12) lq_26 sq_26 (by decide) (by decide) lf_P_12 rfl vq_26_0 lq_27 (by decide +kernel) <|
  wr_iload_n (q := 1) (by decide +kernel) rfl rfl <|
  wr_invV (a := 27) (ci := 0) (mid2 := 40) (idx := 75) (b1 := 0) (b2 := 0) (c1 := 0) (c2 := 0) (as := [.int x1]) (st := []) pl_40 rfl (Nat.le_of_ble_eq_true rfl) rfl rfl lq_27 sq_27 (by decide) rfl lm_P_75 im_40 is_40 (by decide +kernel) k1
theorem b_P_goOn_105 {X : aX} {d : Nat} {post : aO} {vi : Nat → Nat → Int32} {vl : Nat → Nat → Int64} {x1 x2 x3 x4 x5 x6 : Int32} (k1 : CallOk X d 0 0 k_P_fits [.ref 26, .int x1] (mk vi vl) (fun r N' => wp X (d + 1) k_P_goOn 0 0 110 [some (.ref 26), some (.int x1), some (.int x2), some (.int x3), some (.int x4), some (.int x5), some (.int x6)] (pR r []) N' post)) : wp X (d + 1) k_P_goOn 0 0 105 [some (.ref 26), some (.int x1), some (.int x2), some (.int x3), some (.int x4), some (.int x5), some (.int x6)] [] (mk vi vl) post :=
  wr_aload_n (q := 0) (by decide +kernel) rfl rfl <|
  wr_iload_n (q := 1) (by decide +kernel) rfl rfl <|
  wr_invV (a := 26) (ci := 1) (mid2 := 86) (idx := 79) (b1 := 0) (b2 := 0) (c1 := 0) (c2 := 0) (as := [.int x1]) (st := []) pl_86 rfl (Nat.le_of_ble_eq_true rfl) rfl rfl lq_26 sq_26 (by decide) rfl lm_P_79 im_86 is_86 (by decide +kernel) k1
theorem b_P_goOn_110 {X : aX} {d : Nat} {post : aO} {vi : Nat → Nat → Int32} {vl : Nat → Nat → Int64} {x1 x2 x3 x4 x5 x6 y0 : Int32} (k1 : y0 = 0 → wp X (d + 1) k_P_goOn 0 0 130 [some (.ref 26), some (.int x1), some (.int x2), some (.int x3), some (.int x4), some (.int x5), some (.int x6)] [] (mk vi vl) post) (k2 : ¬ y0 = 0 → wp X (d + 1) k_P_goOn 0 0 113 [some (.ref 26), some (.int x1), some (.int x2), some (.int x3), some (.int x4), some (.int x5), some (.int x6)] [] (mk vi vl) post) : wp X (d + 1) k_P_goOn 0 0 110 [some (.ref 26), some (.int x1), some (.int x2), some (.int x3), some (.int x4), some (.int x5), some (.int x6)] [.int y0] (mk vi vl) post :=
  wr_if_eq (off := 20) (t := 130) (by decide +kernel) (by decide) k1 k2
theorem b_P_goOn_113 {X : aX} {d : Nat} {post : aO} {vi : Nat → Nat → Int32} {vl : Nat → Nat → Int64} {x1 x2 x3 x4 x5 x6 : Int32} (q1 : vp_in x1 5) (k1 : ∀ w, w = up2 vi 38 x1.toNatClampNeg x5 → wp X (d + 1) k_P_goOn 0 0 121 [some (.ref 26), some (.int x1), some (.int x2), some (.int x3), some (.int x4), some (.int x5), some (.int x6)] [] (mk w vl) post) : wp X (d + 1) k_P_goOn 0 0 113 [some (.ref 26), some (.int x1), some (.int x2), some (.int x3), some (.int x4), some (.int x5), some (.int x6)] [] (mk vi vl) post :=
  wr_aload_n (q := 0) (by decide +kernel) rfl rfl <|
  wr_getR2 (b := 38) (ci := 1) (k0 := 1) (idx := 18) lq_26 sq_26 (by decide) (by decide) lf_P_18 rfl vq_26_1 lq_38 (by decide +kernel) <|
  wr_iload_n (q := 1) (by decide +kernel) rfl rfl <|
  wr_iload (i := 5) (by decide +kernel) rfl <|
  wr_iast lq_38 sq_38 q1 (by decide +kernel) <|
  k1 _ rfl
theorem b_P_goOn_121 {X : aX} {d : Nat} {post : aO} {vi : Nat → Nat → Int32} {vl : Nat → Nat → Int64} {x1 x2 x3 x4 x5 x6 : Int32} (k1 : CallOk X d 0 0 k_P_goOn [.ref 26, .int (x1 + (1 : Int32)), .int x6] (mk vi vl) (fun r N' => wp X (d + 1) k_P_goOn 0 0 130 [some (.ref 26), some (.int x1), some (.int x2), some (.int x3), some (.int x4), some (.int x5), some (.int x6)] (pR r []) N' post)) : wp X (d + 1) k_P_goOn 0 0 121 [some (.ref 26), some (.int x1), some (.int x2), some (.int x3), some (.int x4), some (.int x5), some (.int x6)] [] (mk vi vl) post :=
  wr_aload_n (q := 0) (by decide +kernel) rfl rfl <|
  wr_iload_n (q := 1) (by decide +kernel) rfl rfl <|
  wr_iconst (n := 1) (v := (1 : Int32)) (by decide +kernel) (by decide) <|
  wr_iadd (by decide +kernel) <|
  wr_iload (i := 6) (by decide +kernel) rfl <|
  wr_invV (a := 26) (ci := 1) (mid2 := 83) (idx := 52) (b1 := 0) (b2 := 0) (c1 := 0) (c2 := 0) (as := [.int (x1 + (1 : Int32)), .int x6]) (st := []) pl_83 rfl (Nat.le_of_ble_eq_true rfl) rfl rfl lq_26 sq_26 (by decide) rfl lm_P_52 im_83 is_83 (by decide +kernel) k1
theorem b_P_goOn_130 {X : aX} {d : Nat} {post : aO} {vi : Nat → Nat → Int32} {vl : Nat → Nat → Int64} {x1 x2 x3 x4 x5 x6 : Int32} (k1 : CallOk X d 0 0 k_C_set [.ref 27, .int x1, .int x3, .int x4] (mk vi vl) (fun r N' => wp X (d + 1) k_P_goOn 0 0 141 [some (.ref 26), some (.int x1), some (.int x2), some (.int x3), some (.int x4), some (.int x5), some (.int x6)] (pR r []) N' post)) : wp X (d + 1) k_P_goOn 0 0 130 [some (.ref 26), some (.int x1), some (.int x2), some (.int x3), some (.int x4), some (.int x5), some (.int x6)] [] (mk vi vl) post :=
  wr_aload_n (q := 0) (by decide +kernel) rfl rfl <|
  wr_getR2 (b := 27) (ci := 1) (k0 := 0) (idx := 12) lq_26 sq_26 (by decide) (by decide) lf_P_12 rfl vq_26_0 lq_27 (by decide +kernel) <|
  wr_iload_n (q := 1) (by decide +kernel) rfl rfl <|
  wr_iload_n (q := 3) (by decide +kernel) rfl rfl <|
  wr_iload (i := 4) (by decide +kernel) rfl <|
  wr_invV (a := 27) (ci := 0) (mid2 := 33) (idx := 83) (b1 := 0) (b2 := 0) (c1 := 0) (c2 := 0) (as := [.int x1, .int x3, .int x4]) (st := []) pl_33 rfl (Nat.le_of_ble_eq_true rfl) rfl rfl lq_27 sq_27 (by decide) rfl lm_P_83 im_33 is_33 (by decide +kernel) k1
theorem b_P_goOn_141 {X : aX} {d : Nat} {post : aO} {vi : Nat → Nat → Int32} {vl : Nat → Nat → Int64} {x1 x2 x3 x4 x5 x6 : Int32} (k1 : wp X (d + 1) k_P_goOn 0 0 45 [some (.ref 26), some (.int x1), some (.int x2), some (.int x3), some (.int x4), some (.int (x5 + (1 : Int32))), some (.int x6)] [] (mk vi vl) post) : wp X (d + 1) k_P_goOn 0 0 141 [some (.ref 26), some (.int x1), some (.int x2), some (.int x3), some (.int x4), some (.int x5), some (.int x6)] [] (mk vi vl) post :=
  wr_iinc (i := 5) (n := 1) (v := (1 : Int32)) (by decide +kernel) rfl (by decide) (by decide) <|
  wr_goto (off := -99) (t := 45) (by decide +kernel) (by decide) k1
theorem b_P_goOn_147 {X : aX} {d : Nat} {post : aO} {vi : Nat → Nat → Int32} {vl : Nat → Nat → Int64} {x1 x2 x3 x4 x5 : Int32} {o6 : Option Value} (k1 : post none (mk vi vl)) : wp X (d + 1) k_P_goOn 0 0 147 [some (.ref 26), some (.int x1), some (.int x2), some (.int x3), some (.int x4), some (.int x5), o6] [] (mk vi vl) post :=
  wr_ret (r := none) (Or.inl ⟨rfl, (by decide +kernel), rfl⟩) k1
theorem b_P_add_0 {X : aX} {d : Nat} {post : aO} {vi : Nat → Nat → Int32} {vl : Nat → Nat → Int64}  (k1 : ¬ (vi 26 6) = 0 → wp X (d + 1) k_P_add 0 0 21 [some (.ref 26)] [] (mk vi vl) post) (k2 : (vi 26 6) = 0 → wp X (d + 1) k_P_add 0 0 7 [some (.ref 26)] [] (mk vi vl) post) : wp X (d + 1) k_P_add 0 0 0 [some (.ref 26)] [] (mk vi vl) post :=
  wr_aload_n (q := 0) (by decide +kernel) rfl rfl <|
  wr_getI (ci := 1) (k0 := 6) (idx := 36) lq_26 sq_26 (by decide) (by decide) lf_P_36 (Or.inl rfl) (by decide +kernel) <|
  wr_if_ne (off := 17) (t := 21) (by decide +kernel) (by decide) k1 k2
theorem b_P_add_7 {X : aX} {d : Nat} {post : aO} {vi : Nat → Nat → Int32} {vl : Nat → Nat → Int64}  (k1 : ∀ w, w = up1 vi 40 (va_cpy (vi 38) (vi 40) 0 0 5) → wp X (d + 1) k_P_add 0 0 21 [some (.ref 26)] [] (mk w vl) post) : wp X (d + 1) k_P_add 0 0 7 [some (.ref 26)] [] (mk vi vl) post :=
  wr_aload_n (q := 0) (by decide +kernel) rfl rfl <|
  wr_getR2 (b := 38) (ci := 1) (k0 := 1) (idx := 18) lq_26 sq_26 (by decide) (by decide) lf_P_18 rfl vq_26_1 lq_38 (by decide +kernel) <|
  wr_iconst (n := 0) (v := (0 : Int32)) (by decide +kernel) (by decide) <|
  wr_aload_n (q := 0) (by decide +kernel) rfl rfl <|
  wr_getR2 (b := 40) (ci := 1) (k0 := 7) (idx := 39) lq_26 sq_26 (by decide) (by decide) lf_P_39 rfl vq_26_7 lq_40 (by decide +kernel) <|
  wr_iconst (n := 0) (v := (0 : Int32)) (by decide +kernel) (by decide) <|
  wr_iconst (n := 5) (v := (5 : Int32)) (by decide +kernel) (by decide) <|
  wr_copy (idx := 100) lx_P lx_na lx_st lx_in (Nat.le_of_ble_eq_true rfl) lq_38 lq_40 sq_38 sq_40 (by decide) (by decide) (by decide) (by decide) (by decide) (by decide +kernel) <|
  k1 _ rfl
theorem b_P_add_21 {X : aX} {d : Nat} {post : aO} {vi : Nat → Nat → Int32} {vl : Nat → Nat → Int64}  (k1 : ∀ w, w = up2 vi 26 6 ((vi 26 6) + (1 : Int32)) → wp X (d + 1) k_P_add 0 0 31 [some (.ref 26)] [] (mk w vl) post) : wp X (d + 1) k_P_add 0 0 21 [some (.ref 26)] [] (mk vi vl) post :=
  wr_aload_n (q := 0) (by decide +kernel) rfl rfl <|
  wr_dup (by decide +kernel) rfl <|
  wr_getI (ci := 1) (k0 := 6) (idx := 36) lq_26 sq_26 (by decide) (by decide) lf_P_36 (Or.inl rfl) (by decide +kernel) <|
  wr_iconst (n := 1) (v := (1 : Int32)) (by decide +kernel) (by decide) <|
  wr_iadd (by decide +kernel) <|
  wr_putI (ci := 1) (k0 := 6) (idx := 36) lq_26 sq_26 (by decide) (by decide) lf_P_36 rfl (by decide +kernel) <|
  k1 _ rfl
theorem b_P_add_31 {X : aX} {d : Nat} {post : aO} {vi : Nat → Nat → Int32} {vl : Nat → Nat → Int64}  (k1 : post none (mk vi vl)) : wp X (d + 1) k_P_add 0 0 31 [some (.ref 26)] [] (mk vi vl) post :=
  wr_ret (r := none) (Or.inl ⟨rfl, (by decide +kernel), rfl⟩) k1
theorem b_P_isAllowed_0 {X : aX} {d : Nat} {post : aO} {vi : Nat → Nat → Int32} {vl : Nat → Nat → Int64} {x1 x2 : Int32} (k1 : (vi 26 5) = 0 → wp X (d + 1) k_P_isAllowed 0 0 31 [some (.ref 26), some (.int x1), some (.int x2)] [] (mk vi vl) post) (k2 : ¬ (vi 26 5) = 0 → wp X (d + 1) k_P_isAllowed 0 0 7 [some (.ref 26), some (.int x1), some (.int x2)] [] (mk vi vl) post) : wp X (d + 1) k_P_isAllowed 0 0 0 [some (.ref 26), some (.int x1), some (.int x2)] [] (mk vi vl) post :=
  wr_aload_n (q := 0) (by decide +kernel) rfl rfl <|
  wr_getI (ci := 1) (k0 := 5) (idx := 33) lq_26 sq_26 (by decide) (by decide) lf_P_33 (Or.inr rfl) (by decide +kernel) <|
  wr_if_eq (off := 27) (t := 31) (by decide +kernel) (by decide) k1 k2
theorem b_P_isAllowed_7 {X : aX} {d : Nat} {post : aO} {vi : Nat → Nat → Int32} {vl : Nat → Nat → Int64} {x1 x2 : Int32} (q1 : vp_in x1 5) (k1 : (vi 28 x1.toNatClampNeg) = 0 → wp X (d + 1) k_P_isAllowed 0 0 31 [some (.ref 26), some (.int x1), some (.int x2)] [] (mk vi vl) post) (k2 : ¬ (vi 28 x1.toNatClampNeg) = 0 → wp X (d + 1) k_P_isAllowed 0 0 19 [some (.ref 26), some (.int x1), some (.int x2)] [] (mk vi vl) post) : wp X (d + 1) k_P_isAllowed 0 0 7 [some (.ref 26), some (.int x1), some (.int x2)] [] (mk vi vl) post :=
  wr_aload_n (q := 0) (by decide +kernel) rfl rfl <|
  wr_getR2 (b := 27) (ci := 1) (k0 := 0) (idx := 12) lq_26 sq_26 (by decide) (by decide) lf_P_12 rfl vq_26_0 lq_27 (by decide +kernel) <|
  wr_getR2 (b := 28) (ci := 0) (k0 := 1) (idx := 62) lq_27 sq_27 (by decide) (by decide) lf_P_62 rfl vq_27_1 lq_28 (by decide +kernel) <|
  wr_iload_n (q := 1) (by decide +kernel) rfl rfl <|
  wr_iald lq_28 sq_28 q1 (by decide +kernel) <|
  wr_if_eq (off := 15) (t := 31) (by decide +kernel) (by decide) k1 k2
theorem b_P_isAllowed_19 {X : aX} {d : Nat} {post : aO} {vi : Nat → Nat → Int32} {vl : Nat → Nat → Int64} {x1 x2 : Int32} (k1 : ¬ x2 = (6 : Int32) → wp X (d + 1) k_P_isAllowed 0 0 29 [some (.ref 26), some (.int x1), some (.int x2)] [] (mk vi vl) post) (k2 : x2 = (6 : Int32) → wp X (d + 1) k_P_isAllowed 0 0 25 [some (.ref 26), some (.int x1), some (.int x2)] [] (mk vi vl) post) : wp X (d + 1) k_P_isAllowed 0 0 19 [some (.ref 26), some (.int x1), some (.int x2)] [] (mk vi vl) post :=
  wr_iload_n (q := 2) (by decide +kernel) rfl rfl <|
  wr_bipush (n := 6) (v := (6 : Int32)) (by decide +kernel) (by decide) <|
  wr_icmp_ne (off := 7) (t := 29) (by decide +kernel) (by decide) k1 k2
theorem b_P_isAllowed_25 {X : aX} {d : Nat} {post : aO} {vi : Nat → Nat → Int32} {vl : Nat → Nat → Int64} {x1 x2 : Int32} (k1 : wp X (d + 1) k_P_isAllowed 0 0 30 [some (.ref 26), some (.int x1), some (.int x2)] [.int (1 : Int32)] (mk vi vl) post) : wp X (d + 1) k_P_isAllowed 0 0 25 [some (.ref 26), some (.int x1), some (.int x2)] [] (mk vi vl) post :=
  wr_iconst (n := 1) (v := (1 : Int32)) (by decide +kernel) (by decide) <|
  wr_goto (off := 4) (t := 30) (by decide +kernel) (by decide) k1
theorem b_P_isAllowed_29 {X : aX} {d : Nat} {post : aO} {vi : Nat → Nat → Int32} {vl : Nat → Nat → Int64} {x1 x2 : Int32} (k1 : wp X (d + 1) k_P_isAllowed 0 0 30 [some (.ref 26), some (.int x1), some (.int x2)] [.int (0 : Int32)] (mk vi vl) post) : wp X (d + 1) k_P_isAllowed 0 0 29 [some (.ref 26), some (.int x1), some (.int x2)] [] (mk vi vl) post :=
  wr_iconst (n := 0) (v := (0 : Int32)) (by decide +kernel) (by decide) <|
  k1
theorem b_P_isAllowed_30 {X : aX} {d : Nat} {post : aO} {vi : Nat → Nat → Int32} {vl : Nat → Nat → Int64} {x1 x2 y0 : Int32} (q1 : y0 = 0 ∨ y0 = 1) (k1 : post (some (.int y0)) (mk vi vl)) : wp X (d + 1) k_P_isAllowed 0 0 30 [some (.ref 26), some (.int x1), some (.int x2)] [.int y0] (mk vi vl) post :=
  wr_ret (r := some (.int y0)) (Or.inr (Or.inl ⟨_, rfl, (by decide +kernel), (Or.inr ⟨rfl, q1⟩)⟩)) k1
theorem b_P_isAllowed_31 {X : aX} {d : Nat} {post : aO} {vi : Nat → Nat → Int32} {vl : Nat → Nat → Int64} {x1 x2 : Int32} (k1 : CallOk X d 0 0 k_C_allows [.ref 27, .int x1, .int x2] (mk vi vl) (fun r N' => wp X (d + 1) k_P_isAllowed 0 0 40 [some (.ref 26), some (.int x1), some (.int x2)] (pR r []) N' post)) : wp X (d + 1) k_P_isAllowed 0 0 31 [some (.ref 26), some (.int x1), some (.int x2)] [] (mk vi vl) post :=
  wr_aload_n (q := 0) (by decide +kernel) rfl rfl <|
  wr_getR2 (b := 27) (ci := 1) (k0 := 0) (idx := 12) lq_26 sq_26 (by decide) (by decide) lf_P_12 rfl vq_26_0 lq_27 (by decide +kernel) <|
  wr_iload_n (q := 1) (by decide +kernel) rfl rfl <|
  wr_iload_n (q := 2) (by decide +kernel) rfl rfl <|
  wr_invV (a := 27) (ci := 0) (mid2 := 60) (idx := 87) (b1 := 0) (b2 := 0) (c1 := 0) (c2 := 0) (as := [.int x1, .int x2]) (st := []) pl_60 rfl (Nat.le_of_ble_eq_true rfl) rfl rfl lq_27 sq_27 (by decide) rfl lm_P_87 im_60 is_60 (by decide +kernel) k1
theorem b_P_isAllowed_40 {X : aX} {d : Nat} {post : aO} {vi : Nat → Nat → Int32} {vl : Nat → Nat → Int64} {x1 x2 y0 : Int32} (q1 : y0 = 0 ∨ y0 = 1) (k1 : post (some (.int y0)) (mk vi vl)) : wp X (d + 1) k_P_isAllowed 0 0 40 [some (.ref 26), some (.int x1), some (.int x2)] [.int y0] (mk vi vl) post :=
  wr_ret (r := some (.int y0)) (Or.inr (Or.inl ⟨_, rfl, (by decide +kernel), (Or.inr ⟨rfl, q1⟩)⟩)) k1
theorem b_P_fits_0 {X : aX} {d : Nat} {post : aO} {vi : Nat → Nat → Int32} {vl : Nat → Nat → Int64} {x1 : Int32} (q1 : vp_in x1 5) (q2 : vp_in x1 5) (k1 : CallOk X d 0 0 k_S_happeningBit [.int (vi 36 x1.toNatClampNeg)] (mk vi vl) (fun r N' => wp X (d + 1) k_P_fits 0 0 18 [some (.ref 26), some (.int x1)] (pR r [.int (vi 39 x1.toNatClampNeg)]) N' post)) : wp X (d + 1) k_P_fits 0 0 0 [some (.ref 26), some (.int x1)] [] (mk vi vl) post :=
  wr_aload_n (q := 0) (by decide +kernel) rfl rfl <|
  wr_getR2 (b := 39) (ci := 1) (k0 := 2) (idx := 22) lq_26 sq_26 (by decide) (by decide) lf_P_22 rfl vq_26_2 lq_39 (by decide +kernel) <|
  wr_iload_n (q := 1) (by decide +kernel) rfl rfl <|
  wr_iald lq_39 sq_39 q1 (by decide +kernel) <|
  wr_aload_n (q := 0) (by decide +kernel) rfl rfl <|
  wr_getR2 (b := 27) (ci := 1) (k0 := 0) (idx := 12) lq_26 sq_26 (by decide) (by decide) lf_P_12 rfl vq_26_0 lq_27 (by decide +kernel) <|
  wr_getR2 (b := 36) (ci := 0) (k0 := 11) (idx := 90) lq_27 sq_27 (by decide) (by decide) lf_P_90 rfl vq_27_11 lq_36 (by decide +kernel) <|
  wr_iload_n (q := 1) (by decide +kernel) rfl rfl <|
  wr_iald lq_36 sq_36 q2 (by decide +kernel) <|
  wr_invSN (host := "SewnAhead") (mid2 := 87) (idx := 93) (b1 := 0) (b2 := 0) (c1 := 0) (c2 := 0) (as := [.int (vi 36 x1.toNatClampNeg)]) (st := [.int (vi 39 x1.toNatClampNeg)]) pl_87 rfl (Nat.le_of_ble_eq_true rfl) rfl rfl (by decide +kernel) it_87 (by decide +kernel) k1
theorem b_P_fits_18 {X : aX} {d : Nat} {post : aO} {vi : Nat → Nat → Int32} {vl : Nat → Nat → Int64} {x1 y0 y1 : Int32} (k1 : ¬ (y0 &&& y1) = 0 → wp X (d + 1) k_P_fits 0 0 24 [some (.ref 26), some (.int x1)] [] (mk vi vl) post) (k2 : (y0 &&& y1) = 0 → wp X (d + 1) k_P_fits 0 0 22 [some (.ref 26), some (.int x1)] [] (mk vi vl) post) : wp X (d + 1) k_P_fits 0 0 18 [some (.ref 26), some (.int x1)] [.int y1, .int y0] (mk vi vl) post :=
  wr_iand (by decide +kernel) <|
  wr_if_ne (off := 5) (t := 24) (by decide +kernel) (by decide) k1 k2
theorem b_P_fits_22 {X : aX} {d : Nat} {post : aO} {vi : Nat → Nat → Int32} {vl : Nat → Nat → Int64} {x1 : Int32} (k1 : post (some (.int (0 : Int32))) (mk vi vl)) : wp X (d + 1) k_P_fits 0 0 22 [some (.ref 26), some (.int x1)] [] (mk vi vl) post :=
  wr_iconst (n := 0) (v := (0 : Int32)) (by decide +kernel) (by decide) <|
  wr_ret (r := some (.int (0 : Int32))) (Or.inr (Or.inl ⟨_, rfl, (by decide +kernel), (Or.inr ⟨rfl, (by decide)⟩)⟩)) k1
theorem b_P_fits_24 {X : aX} {d : Nat} {post : aO} {vi : Nat → Nat → Int32} {vl : Nat → Nat → Int64} {x1 : Int32} (k1 : (vi 26 4) = 0 → wp X (d + 1) k_P_fits 0 0 42 [some (.ref 26), some (.int x1)] [] (mk vi vl) post) (k2 : ¬ (vi 26 4) = 0 → wp X (d + 1) k_P_fits 0 0 31 [some (.ref 26), some (.int x1)] [] (mk vi vl) post) : wp X (d + 1) k_P_fits 0 0 24 [some (.ref 26), some (.int x1)] [] (mk vi vl) post :=
  wr_aload_n (q := 0) (by decide +kernel) rfl rfl <|
  wr_getI (ci := 1) (k0 := 4) (idx := 29) lq_26 sq_26 (by decide) (by decide) lf_P_29 (Or.inr rfl) (by decide +kernel) <|
  wr_if_eq (off := 14) (t := 42) (by decide +kernel) (by decide) k1 k2
theorem b_P_fits_31 {X : aX} {d : Nat} {post : aO} {vi : Nat → Nat → Int32} {vl : Nat → Nat → Int64} {x1 : Int32} (k1 : CallOk X d 0 0 k_C_isAnyBrokenIn [.ref 27, .int x1] (mk vi vl) (fun r N' => wp X (d + 1) k_P_fits 0 0 39 [some (.ref 26), some (.int x1)] (pR r []) N' post)) : wp X (d + 1) k_P_fits 0 0 31 [some (.ref 26), some (.int x1)] [] (mk vi vl) post :=
  wr_aload_n (q := 0) (by decide +kernel) rfl rfl <|
  wr_getR2 (b := 27) (ci := 1) (k0 := 0) (idx := 12) lq_26 sq_26 (by decide) (by decide) lf_P_12 rfl vq_26_0 lq_27 (by decide +kernel) <|
  wr_iload_n (q := 1) (by decide +kernel) rfl rfl <|
  wr_invV (a := 27) (ci := 0) (mid2 := 88) (idx := 97) (b1 := 0) (b2 := 0) (c1 := 0) (c2 := 0) (as := [.int x1]) (st := []) pl_88 rfl (Nat.le_of_ble_eq_true rfl) rfl rfl lq_27 sq_27 (by decide) rfl lm_P_97 im_88 is_88 (by decide +kernel) k1
theorem b_P_fits_39 {X : aX} {d : Nat} {post : aO} {vi : Nat → Nat → Int32} {vl : Nat → Nat → Int64} {x1 y0 : Int32} (k1 : ¬ y0 = 0 → wp X (d + 1) k_P_fits 0 0 46 [some (.ref 26), some (.int x1)] [] (mk vi vl) post) (k2 : y0 = 0 → wp X (d + 1) k_P_fits 0 0 42 [some (.ref 26), some (.int x1)] [] (mk vi vl) post) : wp X (d + 1) k_P_fits 0 0 39 [some (.ref 26), some (.int x1)] [.int y0] (mk vi vl) post :=
  wr_if_ne (off := 7) (t := 46) (by decide +kernel) (by decide) k1 k2
theorem b_P_fits_42 {X : aX} {d : Nat} {post : aO} {vi : Nat → Nat → Int32} {vl : Nat → Nat → Int64} {x1 : Int32} (k1 : wp X (d + 1) k_P_fits 0 0 47 [some (.ref 26), some (.int x1)] [.int (1 : Int32)] (mk vi vl) post) : wp X (d + 1) k_P_fits 0 0 42 [some (.ref 26), some (.int x1)] [] (mk vi vl) post :=
  wr_iconst (n := 1) (v := (1 : Int32)) (by decide +kernel) (by decide) <|
  wr_goto (off := 4) (t := 47) (by decide +kernel) (by decide) k1
theorem b_P_fits_46 {X : aX} {d : Nat} {post : aO} {vi : Nat → Nat → Int32} {vl : Nat → Nat → Int64} {x1 : Int32} (k1 : wp X (d + 1) k_P_fits 0 0 47 [some (.ref 26), some (.int x1)] [.int (0 : Int32)] (mk vi vl) post) : wp X (d + 1) k_P_fits 0 0 46 [some (.ref 26), some (.int x1)] [] (mk vi vl) post :=
  wr_iconst (n := 0) (v := (0 : Int32)) (by decide +kernel) (by decide) <|
  k1
theorem b_P_fits_47 {X : aX} {d : Nat} {post : aO} {vi : Nat → Nat → Int32} {vl : Nat → Nat → Int64} {x1 y0 : Int32} (q1 : y0 = 0 ∨ y0 = 1) (k1 : post (some (.int y0)) (mk vi vl)) : wp X (d + 1) k_P_fits 0 0 47 [some (.ref 26), some (.int x1)] [.int y0] (mk vi vl) post :=
  wr_ret (r := some (.int y0)) (Or.inr (Or.inl ⟨_, rfl, (by decide +kernel), (Or.inr ⟨rfl, q1⟩)⟩)) k1
