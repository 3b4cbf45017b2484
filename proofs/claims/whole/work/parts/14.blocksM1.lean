theorem b_M_row_0 {X : aX} {d : Nat} {post : aO} {vi : Nat → Nat → Int32} {vl : Nat → Nat → Int64} {x1 x2 : Int32} (k1 : CallOk X d 0 0 k_M_isRow [.int x1] (mk vi vl) (fun r N' => wp X (d + 1) k_M_row 0 0 4 [some (.ref 95), some (.int x1), some (.int x2)] (pR r []) N' post)) : wp X (d + 1) k_M_row 0 0 0 [some (.ref 95), some (.int x1), some (.int x2)] [] (mk vi vl) post :=
  wr_iload_n (q := 1) (by decide +kernel) rfl rfl <|
  wr_invS (mid2 := 117) (idx := 65) (b1 := 0) (b2 := 0) (c1 := 0) (c2 := 0) (as := [.int x1]) (st := []) pl_117 rfl (Nat.le_of_ble_eq_true rfl) rfl rfl lm_M_65 it_117 (by decide +kernel) k1
theorem b_M_row_4 {X : aX} {d : Nat} {post : aO} {vi : Nat → Nat → Int32} {vl : Nat → Nat → Int64} {x1 x2 y0 : Int32} (k1 : y0 = 0 → wp X (d + 1) k_M_row 0 0 13 [some (.ref 95), some (.int x1), some (.int x2)] [] (mk vi vl) post) (k2 : ¬ y0 = 0 → wp X (d + 1) k_M_row 0 0 7 [some (.ref 95), some (.int x1), some (.int x2)] [] (mk vi vl) post) : wp X (d + 1) k_M_row 0 0 4 [some (.ref 95), some (.int x1), some (.int x2)] [.int y0] (mk vi vl) post :=
  wr_if_eq (off := 9) (t := 13) (by decide +kernel) (by decide) k1 k2
theorem b_M_row_7 {X : aX} {d : Nat} {post : aO} {vi : Nat → Nat → Int32} {vl : Nat → Nat → Int64} {x1 x2 : Int32} (k1 : x2 ≤ (40 : Int32) → wp X (d + 1) k_M_row 0 0 15 [some (.ref 95), some (.int x1), some (.int x2)] [] (mk vi vl) post) (k2 : ¬ x2 ≤ (40 : Int32) → wp X (d + 1) k_M_row 0 0 13 [some (.ref 95), some (.int x1), some (.int x2)] [] (mk vi vl) post) : wp X (d + 1) k_M_row 0 0 7 [some (.ref 95), some (.int x1), some (.int x2)] [] (mk vi vl) post :=
  wr_iload_n (q := 2) (by decide +kernel) rfl rfl <|
  wr_bipush (n := 40) (v := (40 : Int32)) (by decide +kernel) (by decide) <|
  wr_icmp_le (off := 5) (t := 15) (by decide +kernel) (by decide) k1 k2
theorem b_M_row_13 {X : aX} {d : Nat} {post : aO} {vi : Nat → Nat → Int32} {vl : Nat → Nat → Int64} {x1 x2 : Int32} (k1 : post (some (.int (-1 : Int32))) (mk vi vl)) : wp X (d + 1) k_M_row 0 0 13 [some (.ref 95), some (.int x1), some (.int x2)] [] (mk vi vl) post :=
  wr_iconst (n := -1) (v := (-1 : Int32)) (by decide +kernel) (by decide) <|
  wr_ret (r := some (.int (-1 : Int32))) (Or.inr (Or.inl ⟨_, rfl, (by decide +kernel), (Or.inl rfl)⟩)) k1
theorem b_M_row_15 {X : aX} {d : Nat} {post : aO} {vi : Nat → Nat → Int32} {vl : Nat → Nat → Int64} {x1 x2 : Int32} (k1 : 0 ≤ x2 → wp X (d + 1) k_M_row 0 0 25 [some (.ref 95), some (.int x1), some (.int x2)] [] (mk vi vl) post) (k2 : ¬ 0 ≤ x2 → wp X (d + 1) k_M_row 0 0 19 [some (.ref 95), some (.int x1), some (.int x2)] [] (mk vi vl) post) : wp X (d + 1) k_M_row 0 0 15 [some (.ref 95), some (.int x1), some (.int x2)] [] (mk vi vl) post :=
  wr_iload_n (q := 2) (by decide +kernel) rfl rfl <|
  wr_if_ge (off := 9) (t := 25) (by decide +kernel) (by decide) k1 k2
theorem b_M_row_19 {X : aX} {d : Nat} {post : aO} {vi : Nat → Nat → Int32} {vl : Nat → Nat → Int64} {x1 x2 : Int32} (k1 : CallOk X d 0 0 k_M_found [.ref 95, .int (5 : Int32)] (mk vi vl) (fun r N' => wp X (d + 1) k_M_row 0 0 24 [some (.ref 95), some (.int x1), some (.int x2)] (pR r []) N' post)) : wp X (d + 1) k_M_row 0 0 19 [some (.ref 95), some (.int x1), some (.int x2)] [] (mk vi vl) post :=
  wr_aload_n (q := 0) (by decide +kernel) rfl rfl <|
  wr_iconst (n := 5) (v := (5 : Int32)) (by decide +kernel) (by decide) <|
  wr_invV (a := 95) (ci := 4) (mid2 := 119) (idx := 69) (b1 := 0) (b2 := 0) (c1 := 0) (c2 := 0) (as := [.int (5 : Int32)]) (st := []) pl_119 rfl (Nat.le_of_ble_eq_true rfl) rfl rfl lq_95 sq_95 (by decide) rfl lm_M_69 im_119 is_119 (by decide +kernel) k1
theorem b_M_row_24 {X : aX} {d : Nat} {post : aO} {vi : Nat → Nat → Int32} {vl : Nat → Nat → Int64} {x1 x2 y0 : Int32} (k1 : post (some (.int y0)) (mk vi vl)) : wp X (d + 1) k_M_row 0 0 24 [some (.ref 95), some (.int x1), some (.int x2)] [.int y0] (mk vi vl) post :=
  wr_ret (r := some (.int y0)) (Or.inr (Or.inl ⟨_, rfl, (by decide +kernel), (Or.inl rfl)⟩)) k1
theorem b_M_row_25 {X : aX} {d : Nat} {post : aO} {vi : Nat → Nat → Int32} {vl : Nat → Nat → Int64} {x1 x2 : Int32} (k1 : CallOk X d 0 0 k_M_anew [.ref 95, .int x1, .int x2] (mk vi vl) (fun r N' => wp X (d + 1) k_M_row 0 0 31 [some (.ref 95), some (.int x1), some (.int x2)] (pR r []) N' post)) : wp X (d + 1) k_M_row 0 0 25 [some (.ref 95), some (.int x1), some (.int x2)] [] (mk vi vl) post :=
  wr_aload_n (q := 0) (by decide +kernel) rfl rfl <|
  wr_iload_n (q := 1) (by decide +kernel) rfl rfl <|
  wr_iload_n (q := 2) (by decide +kernel) rfl rfl <|
  wr_invV (a := 95) (ci := 4) (mid2 := 120) (idx := 73) (b1 := 0) (b2 := 0) (c1 := 0) (c2 := 0) (as := [.int x1, .int x2]) (st := []) pl_120 rfl (Nat.le_of_ble_eq_true rfl) rfl rfl lq_95 sq_95 (by decide) rfl lm_M_73 im_120 is_120 (by decide +kernel) k1
theorem b_M_row_31 {X : aX} {d : Nat} {post : aO} {vi : Nat → Nat → Int32} {vl : Nat → Nat → Int64} {x1 x2 : Int32} (k1 : post (some (.int x2)) (mk vi vl)) : wp X (d + 1) k_M_row 0 0 31 [some (.ref 95), some (.int x1), some (.int x2)] [] (mk vi vl) post :=
  wr_iload_n (q := 2) (by decide +kernel) rfl rfl <|
  wr_ret (r := some (.int x2)) (Or.inr (Or.inl ⟨_, rfl, (by decide +kernel), (Or.inl rfl)⟩)) k1
theorem b_M_isRow_0 {X : aX} {d : Nat} {post : aO} {vi : Nat → Nat → Int32} {vl : Nat → Nat → Int64} {x0 : Int32} (k1 : CallOk X d 0 0 k_M_in [.long x0.toInt64, .long (0 : Int64), .long (5 : Int64)] (mk vi vl) (fun r N' => wp X (d + 1) k_M_isRow 0 0 9 [some (.int x0)] (pR r []) N' post)) : wp X (d + 1) k_M_isRow 0 0 0 [some (.int x0)] [] (mk vi vl) post :=
  wr_iload_n (q := 0) (by decide +kernel) rfl rfl <|
  wr_i2l (by decide +kernel) <|
  wr_lconst (n := 0) (v := (0 : Int64)) (by decide +kernel) (by decide) <|
  wr_ldc2 (i := 57) (v := (5 : Int64)) (by decide +kernel) lj_M_57 <|
  wr_invS (mid2 := 118) (idx := 59) (b1 := 0) (b2 := 0) (c1 := 0) (c2 := 0) (as := [.long x0.toInt64, .long (0 : Int64), .long (5 : Int64)]) (st := []) pl_118 rfl (Nat.le_of_ble_eq_true rfl) rfl rfl lm_M_59 it_118 (by decide +kernel) k1
theorem b_M_isRow_9 {X : aX} {d : Nat} {post : aO} {vi : Nat → Nat → Int32} {vl : Nat → Nat → Int64} {x0 y0 : Int32} (q1 : y0 = 0 ∨ y0 = 1) (k1 : post (some (.int y0)) (mk vi vl)) : wp X (d + 1) k_M_isRow 0 0 9 [some (.int x0)] [.int y0] (mk vi vl) post :=
  wr_ret (r := some (.int y0)) (Or.inr (Or.inl ⟨_, rfl, (by decide +kernel), (Or.inr ⟨rfl, q1⟩)⟩)) k1
theorem b_M_in_0 {X : aX} {d : Nat} {post : aO} {vi : Nat → Nat → Int32} {vl : Nat → Nat → Int64} {x0 x2 x4 : Int64} (k1 : (lg_cmp x0 x2) < 0 → wp X (d + 1) k_M_in 0 0 17 [some (.long x0), none, some (.long x2), none, some (.long x4), none] [] (mk vi vl) post) (k2 : ¬ (lg_cmp x0 x2) < 0 → wp X (d + 1) k_M_in 0 0 6 [some (.long x0), none, some (.long x2), none, some (.long x4), none] [] (mk vi vl) post) : wp X (d + 1) k_M_in 0 0 0 [some (.long x0), none, some (.long x2), none, some (.long x4), none] [] (mk vi vl) post :=
  wr_lload_n (q := 0) (by decide +kernel) rfl rfl <|
  wr_lload_n (q := 2) (by decide +kernel) rfl rfl <|
  wr_lcmp (by decide +kernel) <|
  wr_if_lt (off := 14) (t := 17) (by decide +kernel) (by decide) k1 k2
theorem b_M_in_6 {X : aX} {d : Nat} {post : aO} {vi : Nat → Nat → Int32} {vl : Nat → Nat → Int64} {x0 x2 x4 : Int64} (k1 : 0 < (lg_cmp x0 x4) → wp X (d + 1) k_M_in 0 0 17 [some (.long x0), none, some (.long x2), none, some (.long x4), none] [] (mk vi vl) post) (k2 : ¬ 0 < (lg_cmp x0 x4) → wp X (d + 1) k_M_in 0 0 13 [some (.long x0), none, some (.long x2), none, some (.long x4), none] [] (mk vi vl) post) : wp X (d + 1) k_M_in 0 0 6 [some (.long x0), none, some (.long x2), none, some (.long x4), none] [] (mk vi vl) post :=
  wr_lload_n (q := 0) (by decide +kernel) rfl rfl <|
  wr_lload (i := 4) (by decide +kernel) rfl <|
  wr_lcmp (by decide +kernel) <|
  wr_if_gt (off := 7) (t := 17) (by decide +kernel) (by decide) k1 k2
theorem b_M_in_13 {X : aX} {d : Nat} {post : aO} {vi : Nat → Nat → Int32} {vl : Nat → Nat → Int64} {x0 x2 x4 : Int64} (k1 : wp X (d + 1) k_M_in 0 0 18 [some (.long x0), none, some (.long x2), none, some (.long x4), none] [.int (1 : Int32)] (mk vi vl) post) : wp X (d + 1) k_M_in 0 0 13 [some (.long x0), none, some (.long x2), none, some (.long x4), none] [] (mk vi vl) post :=
  wr_iconst (n := 1) (v := (1 : Int32)) (by decide +kernel) (by decide) <|
  wr_goto (off := 4) (t := 18) (by decide +kernel) (by decide) k1
theorem b_M_in_17 {X : aX} {d : Nat} {post : aO} {vi : Nat → Nat → Int32} {vl : Nat → Nat → Int64} {x0 x2 x4 : Int64} (k1 : wp X (d + 1) k_M_in 0 0 18 [some (.long x0), none, some (.long x2), none, some (.long x4), none] [.int (0 : Int32)] (mk vi vl) post) : wp X (d + 1) k_M_in 0 0 17 [some (.long x0), none, some (.long x2), none, some (.long x4), none] [] (mk vi vl) post :=
  wr_iconst (n := 0) (v := (0 : Int32)) (by decide +kernel) (by decide) <|
  k1
theorem b_M_in_18 {X : aX} {d : Nat} {post : aO} {vi : Nat → Nat → Int32} {vl : Nat → Nat → Int64} {x0 x2 x4 : Int64} {y0 : Int32} (q1 : y0 = 0 ∨ y0 = 1) (k1 : post (some (.int y0)) (mk vi vl)) : wp X (d + 1) k_M_in 0 0 18 [some (.long x0), none, some (.long x2), none, some (.long x4), none] [.int y0] (mk vi vl) post :=
  wr_ret (r := some (.int y0)) (Or.inr (Or.inl ⟨_, rfl, (by decide +kernel), (Or.inr ⟨rfl, q1⟩)⟩)) k1
theorem b_M_found_0 {X : aX} {d : Nat} {post : aO} {vi : Nat → Nat → Int32} {vl : Nat → Nat → Int64} {x1 : Int32} (k1 : ∀ w, w = up2 vi 95 8 x1 → wp X (d + 1) k_M_found 0 0 5 [some (.ref 95), some (.int x1)] [] (mk w vl) post) : wp X (d + 1) k_M_found 0 0 0 [some (.ref 95), some (.int x1)] [] (mk vi vl) post :=
  wr_aload_n (q := 0) (by decide +kernel) rfl rfl <|
  wr_iload_n (q := 1) (by decide +kernel) rfl rfl <|
  wr_putI (ci := 4) (k0 := 8) (idx := 51) lq_95 sq_95 (by decide) (by decide) lf_M_51 rfl (by decide +kernel) <|
  k1 _ rfl
theorem b_M_found_5 {X : aX} {d : Nat} {post : aO} {vi : Nat → Nat → Int32} {vl : Nat → Nat → Int64} {x1 : Int32} (q1 : vp_in x1 6) (q2 : vp_in x1 6) (k1 : ∀ w, w = up2 vi 103 x1.toNatClampNeg ((vi 103 x1.toNatClampNeg) + (1 : Int32)) → wp X (d + 1) k_M_found 0 0 15 [some (.ref 95), some (.int x1)] [] (mk w vl) post) : wp X (d + 1) k_M_found 0 0 5 [some (.ref 95), some (.int x1)] [] (mk vi vl) post :=
  wr_aload_n (q := 0) (by decide +kernel) rfl rfl <|
  wr_getR2 (b := 103) (ci := 4) (k0 := 9) (idx := 31) lq_95 sq_95 (by decide) (by decide) lf_M_31 rfl vq_95_9 lq_103 (by decide +kernel) <|
  wr_iload_n (q := 1) (by decide +kernel) rfl rfl <|
  wr_dup2 (by decide +kernel) rfl rfl <|
  wr_iald lq_103 sq_103 q1 (by decide +kernel) <|
  wr_iconst (n := 1) (v := (1 : Int32)) (by decide +kernel) (by decide) <|
  wr_iadd (by decide +kernel) <|
  wr_iast lq_103 sq_103 q2 (by decide +kernel) <|
  k1 _ rfl
theorem b_M_found_15 {X : aX} {d : Nat} {post : aO} {vi : Nat → Nat → Int32} {vl : Nat → Nat → Int64} {x1 : Int32} (k1 : post (some (.int (-3 : Int32))) (mk vi vl)) : wp X (d + 1) k_M_found 0 0 15 [some (.ref 95), some (.int x1)] [] (mk vi vl) post :=
  wr_bipush (n := -3) (v := (-3 : Int32)) (by decide +kernel) (by decide) <|
  wr_ret (r := some (.int (-3 : Int32))) (Or.inr (Or.inl ⟨_, rfl, (by decide +kernel), (Or.inl rfl)⟩)) k1
theorem b_M_anew_0 {X : aX} {d : Nat} {post : aO} {vi : Nat → Nat → Int32} {vl : Nat → Nat → Int64} {x1 x2 : Int32} (q1 : vp_in x1 6) (k1 : ∀ w, w = up2 vi 99 x1.toNatClampNeg x2 → wp X (d + 1) k_M_anew 0 0 7 [some (.ref 95), some (.int x1), some (.int x2), none] [] (mk w vl) post) : wp X (d + 1) k_M_anew 0 0 0 [some (.ref 95), some (.int x1), some (.int x2), none] [] (mk vi vl) post :=
  wr_aload_n (q := 0) (by decide +kernel) rfl rfl <|
  wr_getR2 (b := 99) (ci := 4) (k0 := 4) (idx := 19) lq_95 sq_95 (by decide) (by decide) lf_M_19 rfl vq_95_4 lq_99 (by decide +kernel) <|
  wr_iload_n (q := 1) (by decide +kernel) rfl rfl <|
  wr_iload_n (q := 2) (by decide +kernel) rfl rfl <|
  wr_iast lq_99 sq_99 q1 (by decide +kernel) <|
  k1 _ rfl
theorem b_M_anew_7 {X : aX} {d : Nat} {post : aO} {vi : Nat → Nat → Int32} {vl : Nat → Nat → Int64} {x1 x2 : Int32} {o3 : Option Value} (k1 : wp X (d + 1) k_M_anew 0 0 9 [some (.ref 95), some (.int x1), some (.int x2), some (.int (0 : Int32))] [] (mk vi vl) post) : wp X (d + 1) k_M_anew 0 0 7 [some (.ref 95), some (.int x1), some (.int x2), o3] [] (mk vi vl) post :=
  wr_iconst (n := 0) (v := (0 : Int32)) (by decide +kernel) (by decide) <|
  wr_istore_n (q := 3) (by decide +kernel) rfl (by decide) <|
  k1
theorem b_M_anew_9 {X : aX} {d : Nat} {post : aO} {vi : Nat → Nat → Int32} {vl : Nat → Nat → Int64} {x1 x2 x3 : Int32} (k1 : (40 : Int32) ≤ x3 → wp X (d + 1) k_M_anew 0 0 33 [some (.ref 95), some (.int x1), some (.int x2), some (.int x3)] [] (mk vi vl) post) (k2 : ¬ (40 : Int32) ≤ x3 → wp X (d + 1) k_M_anew 0 0 15 [some (.ref 95), some (.int x1), some (.int x2), some (.int x3)] [] (mk vi vl) post) : wp X (d + 1) k_M_anew 0 0 9 [some (.ref 95), some (.int x1), some (.int x2), some (.int x3)] [] (mk vi vl) post :=
  wr_iload_n (q := 3) (by decide +kernel) rfl rfl <|
  wr_bipush (n := 40) (v := (40 : Int32)) (by decide +kernel) (by decide) <|
  wr_icmp_ge (off := 21) (t := 33) (by decide +kernel) (by decide) k1 k2
theorem b_M_anew_15 {X : aX} {d : Nat} {post : aO} {vi : Nat → Nat → Int32} {vl : Nat → Nat → Int64} {x1 x2 x3 : Int32} (q1 : vp_in (((40 : Int32) * x1) + x3) 240) (k1 : ∀ w, w = up2 vi 98 (((40 : Int32) * x1) + x3).toNatClampNeg (0 : Int32) → wp X (d + 1) k_M_anew 0 0 27 [some (.ref 95), some (.int x1), some (.int x2), some (.int x3)] [] (mk w vl) post) : wp X (d + 1) k_M_anew 0 0 15 [some (.ref 95), some (.int x1), some (.int x2), some (.int x3)] [] (mk vi vl) post :=
  wr_aload_n (q := 0) (by decide +kernel) rfl rfl <|
  wr_getR2 (b := 98) (ci := 4) (k0 := 3) (idx := 16) lq_95 sq_95 (by decide) (by decide) lf_M_16 rfl vq_95_3 lq_98 (by decide +kernel) <|
  wr_bipush (n := 40) (v := (40 : Int32)) (by decide +kernel) (by decide) <|
  wr_iload_n (q := 1) (by decide +kernel) rfl rfl <|
  wr_imul (by decide +kernel) <|
  wr_iload_n (q := 3) (by decide +kernel) rfl rfl <|
  wr_iadd (by decide +kernel) <|
  wr_iconst (n := 0) (v := (0 : Int32)) (by decide +kernel) (by decide) <|
  wr_iast lq_98 sq_98 q1 (by decide +kernel) <|
  k1 _ rfl
theorem b_M_anew_27 {X : aX} {d : Nat} {post : aO} {vi : Nat → Nat → Int32} {vl : Nat → Nat → Int64} {x1 x2 x3 : Int32} (k1 : wp X (d + 1) k_M_anew 0 0 9 [some (.ref 95), some (.int x1), some (.int x2), some (.int (x3 + (1 : Int32)))] [] (mk vi vl) post) : wp X (d + 1) k_M_anew 0 0 27 [some (.ref 95), some (.int x1), some (.int x2), some (.int x3)] [] (mk vi vl) post :=
  wr_iinc (i := 3) (n := 1) (v := (1 : Int32)) (by decide +kernel) rfl (by decide) (by decide) <|
  wr_goto (off := -21) (t := 9) (by decide +kernel) (by decide) k1
theorem b_M_anew_33 {X : aX} {d : Nat} {post : aO} {vi : Nat → Nat → Int32} {vl : Nat → Nat → Int64} {x1 x2 x3 : Int32} (k1 : post none (mk vi vl)) : wp X (d + 1) k_M_anew 0 0 33 [some (.ref 95), some (.int x1), some (.int x2), some (.int x3)] [] (mk vi vl) post :=
  wr_ret (r := none) (Or.inl ⟨rfl, (by decide +kernel), rfl⟩) k1
theorem b_M_lay_0 {X : aX} {d : Nat} {post : aO} {vi : Nat → Nat → Int32} {vl : Nat → Nat → Int64} {x1 x2 x3 : Int32} (k1 : CallOk X d 0 0 k_M_at [.ref 95, .int x1, .int x2] (mk vi vl) (fun r N' => wp X (d + 1) k_M_lay 0 0 6 [some (.ref 95), some (.int x1), some (.int x2), some (.int x3), none] (pR r []) N' post)) : wp X (d + 1) k_M_lay 0 0 0 [some (.ref 95), some (.int x1), some (.int x2), some (.int x3), none] [] (mk vi vl) post :=
  wr_aload_n (q := 0) (by decide +kernel) rfl rfl <|
  wr_iload_n (q := 1) (by decide +kernel) rfl rfl <|
  wr_iload_n (q := 2) (by decide +kernel) rfl rfl <|
  wr_invV (a := 95) (ci := 4) (mid2 := 122) (idx := 77) (b1 := 0) (b2 := 0) (c1 := 0) (c2 := 0) (as := [.int x1, .int x2]) (st := []) pl_122 rfl (Nat.le_of_ble_eq_true rfl) rfl rfl lq_95 sq_95 (by decide) rfl lm_M_77 im_122 is_122 (by decide +kernel) k1
theorem b_M_lay_6 {X : aX} {d : Nat} {post : aO} {vi : Nat → Nat → Int32} {vl : Nat → Nat → Int64} {x1 x2 x3 y0 : Int32} {o4 : Option Value} (k1 : ¬ y0 = (1 : Int32) → wp X (d + 1) k_M_lay 0 0 26 [some (.ref 95), some (.int x1), some (.int x2), some (.int x3), some (.int y0)] [] (mk vi vl) post) (k2 : y0 = (1 : Int32) → wp X (d + 1) k_M_lay 0 0 14 [some (.ref 95), some (.int x1), some (.int x2), some (.int x3), some (.int y0)] [] (mk vi vl) post) : wp X (d + 1) k_M_lay 0 0 6 [some (.ref 95), some (.int x1), some (.int x2), some (.int x3), o4] [.int y0] (mk vi vl) post :=
  wr_istore (i := 4) (by decide +kernel) (by decide) <|
  wr_iload (i := 4) (by decide +kernel) rfl <|
  wr_iconst (n := 1) (v := (1 : Int32)) (by decide +kernel) (by decide) <|
  wr_icmp_ne (off := 15) (t := 26) (by decide +kernel) (by decide) k1 k2
theorem b_M_lay_14 {X : aX} {d : Nat} {post : aO} {vi : Nat → Nat → Int32} {vl : Nat → Nat → Int64} {x1 x2 x3 x4 : Int32} (q1 : vp_in (((40 : Int32) * x1) + x2) 240) (k1 : ∀ w, w = up2 vi 98 (((40 : Int32) * x1) + x2).toNatClampNeg x3 → wp X (d + 1) k_M_lay 0 0 26 [some (.ref 95), some (.int x1), some (.int x2), some (.int x3), some (.int x4)] [] (mk w vl) post) : wp X (d + 1) k_M_lay 0 0 14 [some (.ref 95), some (.int x1), some (.int x2), some (.int x3), some (.int x4)] [] (mk vi vl) post :=
  wr_aload_n (q := 0) (by decide +kernel) rfl rfl <|
  wr_getR2 (b := 98) (ci := 4) (k0 := 3) (idx := 16) lq_95 sq_95 (by decide) (by decide) lf_M_16 rfl vq_95_3 lq_98 (by decide +kernel) <|
  wr_bipush (n := 40) (v := (40 : Int32)) (by decide +kernel) (by decide) <|
  wr_iload_n (q := 1) (by decide +kernel) rfl rfl <|
  wr_imul (by decide +kernel) <|
  wr_iload_n (q := 2) (by decide +kernel) rfl rfl <|
  wr_iadd (by decide +kernel) <|
  wr_iload_n (q := 3) (by decide +kernel) rfl rfl <|
  wr_iast lq_98 sq_98 q1 (by decide +kernel) <|
  k1 _ rfl
theorem b_M_lay_26 {X : aX} {d : Nat} {post : aO} {vi : Nat → Nat → Int32} {vl : Nat → Nat → Int64} {x1 x2 x3 x4 : Int32} (k1 : post (some (.int x4)) (mk vi vl)) : wp X (d + 1) k_M_lay 0 0 26 [some (.ref 95), some (.int x1), some (.int x2), some (.int x3), some (.int x4)] [] (mk vi vl) post :=
  wr_iload (i := 4) (by decide +kernel) rfl <|
  wr_ret (r := some (.int x4)) (Or.inr (Or.inl ⟨_, rfl, (by decide +kernel), (Or.inl rfl)⟩)) k1
theorem b_M_at_0 {X : aX} {d : Nat} {post : aO} {vi : Nat → Nat → Int32} {vl : Nat → Nat → Int64} {x1 x2 : Int32} (k1 : CallOk X d 0 0 k_M_isRow [.int x1] (mk vi vl) (fun r N' => wp X (d + 1) k_M_at 0 0 4 [some (.ref 95), some (.int x1), some (.int x2)] (pR r []) N' post)) : wp X (d + 1) k_M_at 0 0 0 [some (.ref 95), some (.int x1), some (.int x2)] [] (mk vi vl) post :=
  wr_iload_n (q := 1) (by decide +kernel) rfl rfl <|
  wr_invS (mid2 := 117) (idx := 65) (b1 := 0) (b2 := 0) (c1 := 0) (c2 := 0) (as := [.int x1]) (st := []) pl_117 rfl (Nat.le_of_ble_eq_true rfl) rfl rfl lm_M_65 it_117 (by decide +kernel) k1
theorem b_M_at_4 {X : aX} {d : Nat} {post : aO} {vi : Nat → Nat → Int32} {vl : Nat → Nat → Int64} {x1 x2 y0 : Int32} (k1 : ¬ y0 = 0 → wp X (d + 1) k_M_at 0 0 9 [some (.ref 95), some (.int x1), some (.int x2)] [] (mk vi vl) post) (k2 : y0 = 0 → wp X (d + 1) k_M_at 0 0 7 [some (.ref 95), some (.int x1), some (.int x2)] [] (mk vi vl) post) : wp X (d + 1) k_M_at 0 0 4 [some (.ref 95), some (.int x1), some (.int x2)] [.int y0] (mk vi vl) post :=
  wr_if_ne (off := 5) (t := 9) (by decide +kernel) (by decide) k1 k2
theorem b_M_at_7 {X : aX} {d : Nat} {post : aO} {vi : Nat → Nat → Int32} {vl : Nat → Nat → Int64} {x1 x2 : Int32} (k1 : post (some (.int (-1 : Int32))) (mk vi vl)) : wp X (d + 1) k_M_at 0 0 7 [some (.ref 95), some (.int x1), some (.int x2)] [] (mk vi vl) post :=
  wr_iconst (n := -1) (v := (-1 : Int32)) (by decide +kernel) (by decide) <|
  wr_ret (r := some (.int (-1 : Int32))) (Or.inr (Or.inl ⟨_, rfl, (by decide +kernel), (Or.inl rfl)⟩)) k1
theorem b_M_at_9 {X : aX} {d : Nat} {post : aO} {vi : Nat → Nat → Int32} {vl : Nat → Nat → Int64} {x1 x2 : Int32} (q1 : vp_in x1 6) (k1 : 0 ≤ (vi 99 x1.toNatClampNeg) → wp X (d + 1) k_M_at 0 0 24 [some (.ref 95), some (.int x1), some (.int x2)] [] (mk vi vl) post) (k2 : ¬ 0 ≤ (vi 99 x1.toNatClampNeg) → wp X (d + 1) k_M_at 0 0 18 [some (.ref 95), some (.int x1), some (.int x2)] [] (mk vi vl) post) : wp X (d + 1) k_M_at 0 0 9 [some (.ref 95), some (.int x1), some (.int x2)] [] (mk vi vl) post :=
  wr_aload_n (q := 0) (by decide +kernel) rfl rfl <|
  wr_getR2 (b := 99) (ci := 4) (k0 := 4) (idx := 19) lq_95 sq_95 (by decide) (by decide) lf_M_19 rfl vq_95_4 lq_99 (by decide +kernel) <|
  wr_iload_n (q := 1) (by decide +kernel) rfl rfl <|
  wr_iald lq_99 sq_99 q1 (by decide +kernel) <|
  wr_if_ge (off := 9) (t := 24) (by decide +kernel) (by decide) k1 k2
theorem b_M_at_18 {X : aX} {d : Nat} {post : aO} {vi : Nat → Nat → Int32} {vl : Nat → Nat → Int64} {x1 x2 : Int32} (k1 : CallOk X d 0 0 k_M_found [.ref 95, .int (1 : Int32)] (mk vi vl) (fun r N' => wp X (d + 1) k_M_at 0 0 23 [some (.ref 95), some (.int x1), some (.int x2)] (pR r []) N' post)) : wp X (d + 1) k_M_at 0 0 18 [some (.ref 95), some (.int x1), some (.int x2)] [] (mk vi vl) post :=
  wr_aload_n (q := 0) (by decide +kernel) rfl rfl <|
  wr_iconst (n := 1) (v := (1 : Int32)) (by decide +kernel) (by decide) <|
  wr_invV (a := 95) (ci := 4) (mid2 := 119) (idx := 69) (b1 := 0) (b2 := 0) (c1 := 0) (c2 := 0) (as := [.int (1 : Int32)]) (st := []) pl_119 rfl (Nat.le_of_ble_eq_true rfl) rfl rfl lq_95 sq_95 (by decide) rfl lm_M_69 im_119 is_119 (by decide +kernel) k1
theorem b_M_at_23 {X : aX} {d : Nat} {post : aO} {vi : Nat → Nat → Int32} {vl : Nat → Nat → Int64} {x1 x2 y0 : Int32} (k1 : post (some (.int y0)) (mk vi vl)) : wp X (d + 1) k_M_at 0 0 23 [some (.ref 95), some (.int x1), some (.int x2)] [.int y0] (mk vi vl) post :=
  wr_ret (r := some (.int y0)) (Or.inr (Or.inl ⟨_, rfl, (by decide +kernel), (Or.inl rfl)⟩)) k1
theorem b_M_at_24 {X : aX} {d : Nat} {post : aO} {vi : Nat → Nat → Int32} {vl : Nat → Nat → Int64} {x1 x2 : Int32} (q1 : vp_in x1 6) (k1 : CallOk X d 0 0 k_M_in [.long x2.toInt64, .long (0 : Int64), .long (((vi 99 x1.toNatClampNeg) - (1 : Int32)).toInt64)] (mk vi vl) (fun r N' => wp X (d + 1) k_M_at 0 0 39 [some (.ref 95), some (.int x1), some (.int x2)] (pR r []) N' post)) : wp X (d + 1) k_M_at 0 0 24 [some (.ref 95), some (.int x1), some (.int x2)] [] (mk vi vl) post :=
  wr_iload_n (q := 2) (by decide +kernel) rfl rfl <|
  wr_i2l (by decide +kernel) <|
  wr_lconst (n := 0) (v := (0 : Int64)) (by decide +kernel) (by decide) <|
  wr_aload_n (q := 0) (by decide +kernel) rfl rfl <|
  wr_getR2 (b := 99) (ci := 4) (k0 := 4) (idx := 19) lq_95 sq_95 (by decide) (by decide) lf_M_19 rfl vq_95_4 lq_99 (by decide +kernel) <|
  wr_iload_n (q := 1) (by decide +kernel) rfl rfl <|
  wr_iald lq_99 sq_99 q1 (by decide +kernel) <|
  wr_iconst (n := 1) (v := (1 : Int32)) (by decide +kernel) (by decide) <|
  wr_isub (by decide +kernel) <|
  wr_i2l (by decide +kernel) <|
  wr_invS (mid2 := 118) (idx := 59) (b1 := 0) (b2 := 0) (c1 := 0) (c2 := 0) (as := [.long x2.toInt64, .long (0 : Int64), .long (((vi 99 x1.toNatClampNeg) - (1 : Int32)).toInt64)]) (st := []) pl_118 rfl (Nat.le_of_ble_eq_true rfl) rfl rfl lm_M_59 it_118 (by decide +kernel) k1
theorem b_M_at_39 {X : aX} {d : Nat} {post : aO} {vi : Nat → Nat → Int32} {vl : Nat → Nat → Int64} {x1 x2 y0 : Int32} (k1 : y0 = 0 → wp X (d + 1) k_M_at 0 0 61 [some (.ref 95), some (.int x1), some (.int x2)] [] (mk vi vl) post) (k2 : ¬ y0 = 0 → wp X (d + 1) k_M_at 0 0 42 [some (.ref 95), some (.int x1), some (.int x2)] [] (mk vi vl) post) : wp X (d + 1) k_M_at 0 0 39 [some (.ref 95), some (.int x1), some (.int x2)] [.int y0] (mk vi vl) post :=
  wr_if_eq (off := 22) (t := 61) (by decide +kernel) (by decide) k1 k2
theorem b_M_at_42 {X : aX} {d : Nat} {post : aO} {vi : Nat → Nat → Int32} {vl : Nat → Nat → Int64} {x1 x2 : Int32} (q1 : vp_in (((40 : Int32) * x1) + x2) 240) (k1 : CallOk X d 0 0 k_M_tells [.ref 95, .int (vi 98 (((40 : Int32) * x1) + x2).toNatClampNeg), .int (1 : Int32)] (mk vi vl) (fun r N' => wp X (d + 1) k_M_at 0 0 58 [some (.ref 95), some (.int x1), some (.int x2)] (pR r []) N' post)) : wp X (d + 1) k_M_at 0 0 42 [some (.ref 95), some (.int x1), some (.int x2)] [] (mk vi vl) post :=
  wr_aload_n (q := 0) (by decide +kernel) rfl rfl <|
  wr_aload_n (q := 0) (by decide +kernel) rfl rfl <|
  wr_getR2 (b := 98) (ci := 4) (k0 := 3) (idx := 16) lq_95 sq_95 (by decide) (by decide) lf_M_16 rfl vq_95_3 lq_98 (by decide +kernel) <|
  wr_bipush (n := 40) (v := (40 : Int32)) (by decide +kernel) (by decide) <|
  wr_iload_n (q := 1) (by decide +kernel) rfl rfl <|
  wr_imul (by decide +kernel) <|
  wr_iload_n (q := 2) (by decide +kernel) rfl rfl <|
  wr_iadd (by decide +kernel) <|
  wr_iald lq_98 sq_98 q1 (by decide +kernel) <|
  wr_iconst (n := 1) (v := (1 : Int32)) (by decide +kernel) (by decide) <|
  wr_invV (a := 95) (ci := 4) (mid2 := 123) (idx := 81) (b1 := 0) (b2 := 0) (c1 := 0) (c2 := 0) (as := [.int (vi 98 (((40 : Int32) * x1) + x2).toNatClampNeg), .int (1 : Int32)]) (st := []) pl_123 rfl (Nat.le_of_ble_eq_true rfl) rfl rfl lq_95 sq_95 (by decide) rfl lm_M_81 im_123 is_123 (by decide +kernel) k1
theorem b_M_at_58 {X : aX} {d : Nat} {post : aO} {vi : Nat → Nat → Int32} {vl : Nat → Nat → Int64} {x1 x2 y0 : Int32} (k1 : wp X (d + 1) k_M_at 0 0 66 [some (.ref 95), some (.int x1), some (.int x2)] [.int y0] (mk vi vl) post) : wp X (d + 1) k_M_at 0 0 58 [some (.ref 95), some (.int x1), some (.int x2)] [.int y0] (mk vi vl) post :=
  wr_goto (off := 8) (t := 66) (by decide +kernel) (by decide) k1
theorem b_M_at_61 {X : aX} {d : Nat} {post : aO} {vi : Nat → Nat → Int32} {vl : Nat → Nat → Int64} {x1 x2 : Int32} (k1 : CallOk X d 0 0 k_M_found [.ref 95, .int (2 : Int32)] (mk vi vl) (fun r N' => wp X (d + 1) k_M_at 0 0 66 [some (.ref 95), some (.int x1), some (.int x2)] (pR r []) N' post)) : wp X (d + 1) k_M_at 0 0 61 [some (.ref 95), some (.int x1), some (.int x2)] [] (mk vi vl) post :=
  wr_aload_n (q := 0) (by decide +kernel) rfl rfl <|
  wr_iconst (n := 2) (v := (2 : Int32)) (by decide +kernel) (by decide) <|
  wr_invV (a := 95) (ci := 4) (mid2 := 119) (idx := 69) (b1 := 0) (b2 := 0) (c1 := 0) (c2 := 0) (as := [.int (2 : Int32)]) (st := []) pl_119 rfl (Nat.le_of_ble_eq_true rfl) rfl rfl lq_95 sq_95 (by decide) rfl lm_M_69 im_119 is_119 (by decide +kernel) k1
theorem b_M_at_66 {X : aX} {d : Nat} {post : aO} {vi : Nat → Nat → Int32} {vl : Nat → Nat → Int64} {x1 x2 y0 : Int32} (k1 : post (some (.int y0)) (mk vi vl)) : wp X (d + 1) k_M_at 0 0 66 [some (.ref 95), some (.int x1), some (.int x2)] [.int y0] (mk vi vl) post :=
  wr_ret (r := some (.int y0)) (Or.inr (Or.inl ⟨_, rfl, (by decide +kernel), (Or.inl rfl)⟩)) k1
theorem b_M_tells_0 {X : aX} {d : Nat} {post : aO} {vi : Nat → Nat → Int32} {vl : Nat → Nat → Int64} {x1 x2 : Int32} (k1 : ∀ w, w = up2 vi 95 10 x1 → wp X (d + 1) k_M_tells 0 0 5 [some (.ref 95), some (.int x1), some (.int x2)] [] (mk w vl) post) : wp X (d + 1) k_M_tells 0 0 0 [some (.ref 95), some (.int x1), some (.int x2)] [] (mk vi vl) post :=
  wr_aload_n (q := 0) (by decide +kernel) rfl rfl <|
  wr_iload_n (q := 1) (by decide +kernel) rfl rfl <|
  wr_putI (ci := 4) (k0 := 10) (idx := 54) lq_95 sq_95 (by decide) (by decide) lf_M_54 rfl (by decide +kernel) <|
  k1 _ rfl
theorem b_M_tells_5 {X : aX} {d : Nat} {post : aO} {vi : Nat → Nat → Int32} {vl : Nat → Nat → Int64} {x1 x2 : Int32} (k1 : post (some (.int x2)) (mk vi vl)) : wp X (d + 1) k_M_tells 0 0 5 [some (.ref 95), some (.int x1), some (.int x2)] [] (mk vi vl) post :=
  wr_iload_n (q := 2) (by decide +kernel) rfl rfl <|
  wr_ret (r := some (.int x2)) (Or.inr (Or.inl ⟨_, rfl, (by decide +kernel), (Or.inl rfl)⟩)) k1
theorem b_M_tear_0 {X : aX} {d : Nat} {post : aO} {vi : Nat → Nat → Int32} {vl : Nat → Nat → Int64} {x1 : Int32} (k1 : CallOk X d 0 0 k_M_isRow [.int x1] (mk vi vl) (fun r N' => wp X (d + 1) k_M_tear 0 0 4 [some (.ref 95), some (.int x1)] (pR r []) N' post)) : wp X (d + 1) k_M_tear 0 0 0 [some (.ref 95), some (.int x1)] [] (mk vi vl) post :=
  wr_iload_n (q := 1) (by decide +kernel) rfl rfl <|
  wr_invS (mid2 := 117) (idx := 65) (b1 := 0) (b2 := 0) (c1 := 0) (c2 := 0) (as := [.int x1]) (st := []) pl_117 rfl (Nat.le_of_ble_eq_true rfl) rfl rfl lm_M_65 it_117 (by decide +kernel) k1
theorem b_M_tear_4 {X : aX} {d : Nat} {post : aO} {vi : Nat → Nat → Int32} {vl : Nat → Nat → Int64} {x1 y0 : Int32} (k1 : ¬ y0 = 0 → wp X (d + 1) k_M_tear 0 0 9 [some (.ref 95), some (.int x1)] [] (mk vi vl) post) (k2 : y0 = 0 → wp X (d + 1) k_M_tear 0 0 7 [some (.ref 95), some (.int x1)] [] (mk vi vl) post) : wp X (d + 1) k_M_tear 0 0 4 [some (.ref 95), some (.int x1)] [.int y0] (mk vi vl) post :=
  wr_if_ne (off := 5) (t := 9) (by decide +kernel) (by decide) k1 k2
theorem b_M_tear_7 {X : aX} {d : Nat} {post : aO} {vi : Nat → Nat → Int32} {vl : Nat → Nat → Int64} {x1 : Int32} (k1 : post (some (.int (-1 : Int32))) (mk vi vl)) : wp X (d + 1) k_M_tear 0 0 7 [some (.ref 95), some (.int x1)] [] (mk vi vl) post :=
  wr_iconst (n := -1) (v := (-1 : Int32)) (by decide +kernel) (by decide) <|
  wr_ret (r := some (.int (-1 : Int32))) (Or.inr (Or.inl ⟨_, rfl, (by decide +kernel), (Or.inl rfl)⟩)) k1
theorem b_M_tear_9 {X : aX} {d : Nat} {post : aO} {vi : Nat → Nat → Int32} {vl : Nat → Nat → Int64} {x1 : Int32} (q1 : vp_in x1 6) (k1 : 0 ≤ (vi 99 x1.toNatClampNeg) → wp X (d + 1) k_M_tear 0 0 24 [some (.ref 95), some (.int x1)] [] (mk vi vl) post) (k2 : ¬ 0 ≤ (vi 99 x1.toNatClampNeg) → wp X (d + 1) k_M_tear 0 0 18 [some (.ref 95), some (.int x1)] [] (mk vi vl) post) : wp X (d + 1) k_M_tear 0 0 9 [some (.ref 95), some (.int x1)] [] (mk vi vl) post :=
  wr_aload_n (q := 0) (by decide +kernel) rfl rfl <|
  wr_getR2 (b := 99) (ci := 4) (k0 := 4) (idx := 19) lq_95 sq_95 (by decide) (by decide) lf_M_19 rfl vq_95_4 lq_99 (by decide +kernel) <|
  wr_iload_n (q := 1) (by decide +kernel) rfl rfl <|
  wr_iald lq_99 sq_99 q1 (by decide +kernel) <|
  wr_if_ge (off := 9) (t := 24) (by decide +kernel) (by decide) k1 k2
theorem b_M_tear_18 {X : aX} {d : Nat} {post : aO} {vi : Nat → Nat → Int32} {vl : Nat → Nat → Int64} {x1 : Int32} (k1 : CallOk X d 0 0 k_M_found [.ref 95, .int (1 : Int32)] (mk vi vl) (fun r N' => wp X (d + 1) k_M_tear 0 0 23 [some (.ref 95), some (.int x1)] (pR r []) N' post)) : wp X (d + 1) k_M_tear 0 0 18 [some (.ref 95), some (.int x1)] [] (mk vi vl) post :=
  wr_aload_n (q := 0) (by decide +kernel) rfl rfl <|
  wr_iconst (n := 1) (v := (1 : Int32)) (by decide +kernel) (by decide) <|
  wr_invV (a := 95) (ci := 4) (mid2 := 119) (idx := 69) (b1 := 0) (b2 := 0) (c1 := 0) (c2 := 0) (as := [.int (1 : Int32)]) (st := []) pl_119 rfl (Nat.le_of_ble_eq_true rfl) rfl rfl lq_95 sq_95 (by decide) rfl lm_M_69 im_119 is_119 (by decide +kernel) k1
theorem b_M_tear_23 {X : aX} {d : Nat} {post : aO} {vi : Nat → Nat → Int32} {vl : Nat → Nat → Int64} {x1 y0 : Int32} (k1 : post (some (.int y0)) (mk vi vl)) : wp X (d + 1) k_M_tear 0 0 23 [some (.ref 95), some (.int x1)] [.int y0] (mk vi vl) post :=
  wr_ret (r := some (.int y0)) (Or.inr (Or.inl ⟨_, rfl, (by decide +kernel), (Or.inl rfl)⟩)) k1
theorem b_M_tear_24 {X : aX} {d : Nat} {post : aO} {vi : Nat → Nat → Int32} {vl : Nat → Nat → Int64} {x1 : Int32} (q1 : vp_in x1 6) (k1 : ∀ w, w = up2 vi 99 x1.toNatClampNeg (-1 : Int32) → wp X (d + 1) k_M_tear 0 0 31 [some (.ref 95), some (.int x1)] [] (mk w vl) post) : wp X (d + 1) k_M_tear 0 0 24 [some (.ref 95), some (.int x1)] [] (mk vi vl) post :=
  wr_aload_n (q := 0) (by decide +kernel) rfl rfl <|
  wr_getR2 (b := 99) (ci := 4) (k0 := 4) (idx := 19) lq_95 sq_95 (by decide) (by decide) lf_M_19 rfl vq_95_4 lq_99 (by decide +kernel) <|
  wr_iload_n (q := 1) (by decide +kernel) rfl rfl <|
  wr_iconst (n := -1) (v := (-1 : Int32)) (by decide +kernel) (by decide) <|
  wr_iast lq_99 sq_99 q1 (by decide +kernel) <|
  k1 _ rfl
theorem b_M_tear_31 {X : aX} {d : Nat} {post : aO} {vi : Nat → Nat → Int32} {vl : Nat → Nat → Int64} {x1 : Int32} (k1 : post (some (.int (1 : Int32))) (mk vi vl)) : wp X (d + 1) k_M_tear 0 0 31 [some (.ref 95), some (.int x1)] [] (mk vi vl) post :=
  wr_iconst (n := 1) (v := (1 : Int32)) (by decide +kernel) (by decide) <|
  wr_ret (r := some (.int (1 : Int32))) (Or.inr (Or.inl ⟨_, rfl, (by decide +kernel), (Or.inl rfl)⟩)) k1
theorem b_M_copy_0 {X : aX} {d : Nat} {post : aO} {vi : Nat → Nat → Int32} {vl : Nat → Nat → Int64} {x1 x2 x3 x4 x5 : Int32} (k1 : CallOk X d 0 0 k_M_isRow [.int x1] (mk vi vl) (fun r N' => wp X (d + 1) k_M_copy 0 0 4 [some (.ref 95), some (.int x1), some (.int x2), some (.int x3), some (.int x4), some (.int x5), none] (pR r []) N' post)) : wp X (d + 1) k_M_copy 0 0 0 [some (.ref 95), some (.int x1), some (.int x2), some (.int x3), some (.int x4), some (.int x5), none] [] (mk vi vl) post :=
  wr_iload_n (q := 1) (by decide +kernel) rfl rfl <|
  wr_invS (mid2 := 117) (idx := 65) (b1 := 0) (b2 := 0) (c1 := 0) (c2 := 0) (as := [.int x1]) (st := []) pl_117 rfl (Nat.le_of_ble_eq_true rfl) rfl rfl lm_M_65 it_117 (by decide +kernel) k1
theorem b_M_copy_4 {X : aX} {d : Nat} {post : aO} {vi : Nat → Nat → Int32} {vl : Nat → Nat → Int64} {x1 x2 x3 x4 x5 y0 : Int32} {o6 : Option Value} (k1 : y0 = 0 → wp X (d + 1) k_M_copy 0 0 14 [some (.ref 95), some (.int x1), some (.int x2), some (.int x3), some (.int x4), some (.int x5), o6] [] (mk vi vl) post) (k2 : ¬ y0 = 0 → wp X (d + 1) k_M_copy 0 0 7 [some (.ref 95), some (.int x1), some (.int x2), some (.int x3), some (.int x4), some (.int x5), o6] [] (mk vi vl) post) : wp X (d + 1) k_M_copy 0 0 4 [some (.ref 95), some (.int x1), some (.int x2), some (.int x3), some (.int x4), some (.int x5), o6] [.int y0] (mk vi vl) post :=
  wr_if_eq (off := 10) (t := 14) (by decide +kernel) (by decide) k1 k2
theorem b_M_copy_7 {X : aX} {d : Nat} {post : aO} {vi : Nat → Nat → Int32} {vl : Nat → Nat → Int64} {x1 x2 x3 x4 x5 : Int32} {o6 : Option Value} (k1 : CallOk X d 0 0 k_M_isRow [.int x3] (mk vi vl) (fun r N' => wp X (d + 1) k_M_copy 0 0 11 [some (.ref 95), some (.int x1), some (.int x2), some (.int x3), some (.int x4), some (.int x5), o6] (pR r []) N' post)) : wp X (d + 1) k_M_copy 0 0 7 [some (.ref 95), some (.int x1), some (.int x2), some (.int x3), some (.int x4), some (.int x5), o6] [] (mk vi vl) post :=
  wr_iload_n (q := 3) (by decide +kernel) rfl rfl <|
  wr_invS (mid2 := 117) (idx := 65) (b1 := 0) (b2 := 0) (c1 := 0) (c2 := 0) (as := [.int x3]) (st := []) pl_117 rfl (Nat.le_of_ble_eq_true rfl) rfl rfl lm_M_65 it_117 (by decide +kernel) k1
theorem b_M_copy_11 {X : aX} {d : Nat} {post : aO} {vi : Nat → Nat → Int32} {vl : Nat → Nat → Int64} {x1 x2 x3 x4 x5 y0 : Int32} {o6 : Option Value} (k1 : ¬ y0 = 0 → wp X (d + 1) k_M_copy 0 0 16 [some (.ref 95), some (.int x1), some (.int x2), some (.int x3), some (.int x4), some (.int x5), o6] [] (mk vi vl) post) (k2 : y0 = 0 → wp X (d + 1) k_M_copy 0 0 14 [some (.ref 95), some (.int x1), some (.int x2), some (.int x3), some (.int x4), some (.int x5), o6] [] (mk vi vl) post) : wp X (d + 1) k_M_copy 0 0 11 [some (.ref 95), some (.int x1), some (.int x2), some (.int x3), some (.int x4), some (.int x5), o6] [.int y0] (mk vi vl) post :=
  wr_if_ne (off := 5) (t := 16) (by decide +kernel) (by decide) k1 k2
theorem b_M_copy_14 {X : aX} {d : Nat} {post : aO} {vi : Nat → Nat → Int32} {vl : Nat → Nat → Int64} {x1 x2 x3 x4 x5 : Int32} {o6 : Option Value} (k1 : post (some (.int (-1 : Int32))) (mk vi vl)) : wp X (d + 1) k_M_copy 0 0 14 [some (.ref 95), some (.int x1), some (.int x2), some (.int x3), some (.int x4), some (.int x5), o6] [] (mk vi vl) post :=
  wr_iconst (n := -1) (v := (-1 : Int32)) (by decide +kernel) (by decide) <|
  wr_ret (r := some (.int (-1 : Int32))) (Or.inr (Or.inl ⟨_, rfl, (by decide +kernel), (Or.inl rfl)⟩)) k1
theorem b_M_copy_16 {X : aX} {d : Nat} {post : aO} {vi : Nat → Nat → Int32} {vl : Nat → Nat → Int64} {x1 x2 x3 x4 x5 : Int32} {o6 : Option Value} (k1 : 0 ≤ x5 → wp X (d + 1) k_M_copy 0 0 27 [some (.ref 95), some (.int x1), some (.int x2), some (.int x3), some (.int x4), some (.int x5), o6] [] (mk vi vl) post) (k2 : ¬ 0 ≤ x5 → wp X (d + 1) k_M_copy 0 0 21 [some (.ref 95), some (.int x1), some (.int x2), some (.int x3), some (.int x4), some (.int x5), o6] [] (mk vi vl) post) : wp X (d + 1) k_M_copy 0 0 16 [some (.ref 95), some (.int x1), some (.int x2), some (.int x3), some (.int x4), some (.int x5), o6] [] (mk vi vl) post :=
  wr_iload (i := 5) (by decide +kernel) rfl <|
  wr_if_ge (off := 9) (t := 27) (by decide +kernel) (by decide) k1 k2
theorem b_M_copy_21 {X : aX} {d : Nat} {post : aO} {vi : Nat → Nat → Int32} {vl : Nat → Nat → Int64} {x1 x2 x3 x4 x5 : Int32} {o6 : Option Value} (k1 : CallOk X d 0 0 k_M_found [.ref 95, .int (5 : Int32)] (mk vi vl) (fun r N' => wp X (d + 1) k_M_copy 0 0 26 [some (.ref 95), some (.int x1), some (.int x2), some (.int x3), some (.int x4), some (.int x5), o6] (pR r []) N' post)) : wp X (d + 1) k_M_copy 0 0 21 [some (.ref 95), some (.int x1), some (.int x2), some (.int x3), some (.int x4), some (.int x5), o6] [] (mk vi vl) post :=
  wr_aload_n (q := 0) (by decide +kernel) rfl rfl <|
  wr_iconst (n := 5) (v := (5 : Int32)) (by decide +kernel) (by decide) <|
  wr_invV (a := 95) (ci := 4) (mid2 := 119) (idx := 69) (b1 := 0) (b2 := 0) (c1 := 0) (c2 := 0) (as := [.int (5 : Int32)]) (st := []) pl_119 rfl (Nat.le_of_ble_eq_true rfl) rfl rfl lq_95 sq_95 (by decide) rfl lm_M_69 im_119 is_119 (by decide +kernel) k1
theorem b_M_copy_26 {X : aX} {d : Nat} {post : aO} {vi : Nat → Nat → Int32} {vl : Nat → Nat → Int64} {x1 x2 x3 x4 x5 y0 : Int32} {o6 : Option Value} (k1 : post (some (.int y0)) (mk vi vl)) : wp X (d + 1) k_M_copy 0 0 26 [some (.ref 95), some (.int x1), some (.int x2), some (.int x3), some (.int x4), some (.int x5), o6] [.int y0] (mk vi vl) post :=
  wr_ret (r := some (.int y0)) (Or.inr (Or.inl ⟨_, rfl, (by decide +kernel), (Or.inl rfl)⟩)) k1
theorem b_M_copy_27 {X : aX} {d : Nat} {post : aO} {vi : Nat → Nat → Int32} {vl : Nat → Nat → Int64} {x1 x2 x3 x4 x5 : Int32} {o6 : Option Value} (q1 : vp_in x1 6) (k1 : (vi 99 x1.toNatClampNeg) < 0 → wp X (d + 1) k_M_copy 0 0 45 [some (.ref 95), some (.int x1), some (.int x2), some (.int x3), some (.int x4), some (.int x5), o6] [] (mk vi vl) post) (k2 : ¬ (vi 99 x1.toNatClampNeg) < 0 → wp X (d + 1) k_M_copy 0 0 36 [some (.ref 95), some (.int x1), some (.int x2), some (.int x3), some (.int x4), some (.int x5), o6] [] (mk vi vl) post) : wp X (d + 1) k_M_copy 0 0 27 [some (.ref 95), some (.int x1), some (.int x2), some (.int x3), some (.int x4), some (.int x5), o6] [] (mk vi vl) post :=
  wr_aload_n (q := 0) (by decide +kernel) rfl rfl <|
  wr_getR2 (b := 99) (ci := 4) (k0 := 4) (idx := 19) lq_95 sq_95 (by decide) (by decide) lf_M_19 rfl vq_95_4 lq_99 (by decide +kernel) <|
  wr_iload_n (q := 1) (by decide +kernel) rfl rfl <|
  wr_iald lq_99 sq_99 q1 (by decide +kernel) <|
  wr_if_lt (off := 12) (t := 45) (by decide +kernel) (by decide) k1 k2
theorem b_M_copy_36 {X : aX} {d : Nat} {post : aO} {vi : Nat → Nat → Int32} {vl : Nat → Nat → Int64} {x1 x2 x3 x4 x5 : Int32} {o6 : Option Value} (q1 : vp_in x3 6) (k1 : 0 ≤ (vi 99 x3.toNatClampNeg) → wp X (d + 1) k_M_copy 0 0 51 [some (.ref 95), some (.int x1), some (.int x2), some (.int x3), some (.int x4), some (.int x5), o6] [] (mk vi vl) post) (k2 : ¬ 0 ≤ (vi 99 x3.toNatClampNeg) → wp X (d + 1) k_M_copy 0 0 45 [some (.ref 95), some (.int x1), some (.int x2), some (.int x3), some (.int x4), some (.int x5), o6] [] (mk vi vl) post) : wp X (d + 1) k_M_copy 0 0 36 [some (.ref 95), some (.int x1), some (.int x2), some (.int x3), some (.int x4), some (.int x5), o6] [] (mk vi vl) post :=
  wr_aload_n (q := 0) (by decide +kernel) rfl rfl <|
  wr_getR2 (b := 99) (ci := 4) (k0 := 4) (idx := 19) lq_95 sq_95 (by decide) (by decide) lf_M_19 rfl vq_95_4 lq_99 (by decide +kernel) <|
  wr_iload_n (q := 3) (by decide +kernel) rfl rfl <|
  wr_iald lq_99 sq_99 q1 (by decide +kernel) <|
  wr_if_ge (off := 9) (t := 51) (by decide +kernel) (by decide) k1 k2
theorem b_M_copy_45 {X : aX} {d : Nat} {post : aO} {vi : Nat → Nat → Int32} {vl : Nat → Nat → Int64} {x1 x2 x3 x4 x5 : Int32} {o6 : Option Value} (k1 : CallOk X d 0 0 k_M_found [.ref 95, .int (1 : Int32)] (mk vi vl) (fun r N' => wp X (d + 1) k_M_copy 0 0 50 [some (.ref 95), some (.int x1), some (.int x2), some (.int x3), some (.int x4), some (.int x5), o6] (pR r []) N' post)) : wp X (d + 1) k_M_copy 0 0 45 [some (.ref 95), some (.int x1), some (.int x2), some (.int x3), some (.int x4), some (.int x5), o6] [] (mk vi vl) post :=
  wr_aload_n (q := 0) (by decide +kernel) rfl rfl <|
  wr_iconst (n := 1) (v := (1 : Int32)) (by decide +kernel) (by decide) <|
  wr_invV (a := 95) (ci := 4) (mid2 := 119) (idx := 69) (b1 := 0) (b2 := 0) (c1 := 0) (c2 := 0) (as := [.int (1 : Int32)]) (st := []) pl_119 rfl (Nat.le_of_ble_eq_true rfl) rfl rfl lq_95 sq_95 (by decide) rfl lm_M_69 im_119 is_119 (by decide +kernel) k1
theorem b_M_copy_50 {X : aX} {d : Nat} {post : aO} {vi : Nat → Nat → Int32} {vl : Nat → Nat → Int64} {x1 x2 x3 x4 x5 y0 : Int32} {o6 : Option Value} (k1 : post (some (.int y0)) (mk vi vl)) : wp X (d + 1) k_M_copy 0 0 50 [some (.ref 95), some (.int x1), some (.int x2), some (.int x3), some (.int x4), some (.int x5), o6] [.int y0] (mk vi vl) post :=
  wr_ret (r := some (.int y0)) (Or.inr (Or.inl ⟨_, rfl, (by decide +kernel), (Or.inl rfl)⟩)) k1
theorem b_M_copy_51 {X : aX} {d : Nat} {post : aO} {vi : Nat → Nat → Int32} {vl : Nat → Nat → Int64} {x1 x2 x3 x4 x5 : Int32} {o6 : Option Value} (q1 : vp_in x1 6) (k1 : CallOk X d 0 0 k_M_fits [.int x2, .int x5, .int (vi 99 x1.toNatClampNeg)] (mk vi vl) (fun r N' => wp X (d + 1) k_M_copy 0 0 63 [some (.ref 95), some (.int x1), some (.int x2), some (.int x3), some (.int x4), some (.int x5), o6] (pR r []) N' post)) : wp X (d + 1) k_M_copy 0 0 51 [some (.ref 95), some (.int x1), some (.int x2), some (.int x3), some (.int x4), some (.int x5), o6] [] (mk vi vl) post :=
  wr_iload_n (q := 2) (by decide +kernel) rfl rfl <|
  wr_iload (i := 5) (by decide +kernel) rfl <|
  wr_aload_n (q := 0) (by decide +kernel) rfl rfl <|
  wr_getR2 (b := 99) (ci := 4) (k0 := 4) (idx := 19) lq_95 sq_95 (by decide) (by decide) lf_M_19 rfl vq_95_4 lq_99 (by decide +kernel) <|
  wr_iload_n (q := 1) (by decide +kernel) rfl rfl <|
  wr_iald lq_99 sq_99 q1 (by decide +kernel) <|
  wr_invS (mid2 := 126) (idx := 84) (b1 := 0) (b2 := 0) (c1 := 0) (c2 := 0) (as := [.int x2, .int x5, .int (vi 99 x1.toNatClampNeg)]) (st := []) pl_126 rfl (Nat.le_of_ble_eq_true rfl) rfl rfl lm_M_84 it_126 (by decide +kernel) k1
theorem b_M_copy_63 {X : aX} {d : Nat} {post : aO} {vi : Nat → Nat → Int32} {vl : Nat → Nat → Int64} {x1 x2 x3 x4 x5 y0 : Int32} {o6 : Option Value} (k1 : y0 = 0 → wp X (d + 1) k_M_copy 0 0 82 [some (.ref 95), some (.int x1), some (.int x2), some (.int x3), some (.int x4), some (.int x5), o6] [] (mk vi vl) post) (k2 : ¬ y0 = 0 → wp X (d + 1) k_M_copy 0 0 66 [some (.ref 95), some (.int x1), some (.int x2), some (.int x3), some (.int x4), some (.int x5), o6] [] (mk vi vl) post) : wp X (d + 1) k_M_copy 0 0 63 [some (.ref 95), some (.int x1), some (.int x2), some (.int x3), some (.int x4), some (.int x5), o6] [.int y0] (mk vi vl) post :=
  wr_if_eq (off := 19) (t := 82) (by decide +kernel) (by decide) k1 k2
theorem b_M_copy_66 {X : aX} {d : Nat} {post : aO} {vi : Nat → Nat → Int32} {vl : Nat → Nat → Int64} {x1 x2 x3 x4 x5 : Int32} {o6 : Option Value} (q1 : vp_in x3 6) (k1 : CallOk X d 0 0 k_M_fits [.int x4, .int x5, .int (vi 99 x3.toNatClampNeg)] (mk vi vl) (fun r N' => wp X (d + 1) k_M_copy 0 0 79 [some (.ref 95), some (.int x1), some (.int x2), some (.int x3), some (.int x4), some (.int x5), o6] (pR r []) N' post)) : wp X (d + 1) k_M_copy 0 0 66 [some (.ref 95), some (.int x1), some (.int x2), some (.int x3), some (.int x4), some (.int x5), o6] [] (mk vi vl) post :=
  wr_iload (i := 4) (by decide +kernel) rfl <|
  wr_iload (i := 5) (by decide +kernel) rfl <|
  wr_aload_n (q := 0) (by decide +kernel) rfl rfl <|
  wr_getR2 (b := 99) (ci := 4) (k0 := 4) (idx := 19) lq_95 sq_95 (by decide) (by decide) lf_M_19 rfl vq_95_4 lq_99 (by decide +kernel) <|
  wr_iload_n (q := 3) (by decide +kernel) rfl rfl <|
  wr_iald lq_99 sq_99 q1 (by decide +kernel) <|
  wr_invS (mid2 := 126) (idx := 84) (b1 := 0) (b2 := 0) (c1 := 0) (c2 := 0) (as := [.int x4, .int x5, .int (vi 99 x3.toNatClampNeg)]) (st := []) pl_126 rfl (Nat.le_of_ble_eq_true rfl) rfl rfl lm_M_84 it_126 (by decide +kernel) k1
theorem b_M_copy_79 {X : aX} {d : Nat} {post : aO} {vi : Nat → Nat → Int32} {vl : Nat → Nat → Int64} {x1 x2 x3 x4 x5 y0 : Int32} {o6 : Option Value} (k1 : ¬ y0 = 0 → wp X (d + 1) k_M_copy 0 0 88 [some (.ref 95), some (.int x1), some (.int x2), some (.int x3), some (.int x4), some (.int x5), o6] [] (mk vi vl) post) (k2 : y0 = 0 → wp X (d + 1) k_M_copy 0 0 82 [some (.ref 95), some (.int x1), some (.int x2), some (.int x3), some (.int x4), some (.int x5), o6] [] (mk vi vl) post) : wp X (d + 1) k_M_copy 0 0 79 [some (.ref 95), some (.int x1), some (.int x2), some (.int x3), some (.int x4), some (.int x5), o6] [.int y0] (mk vi vl) post :=
  wr_if_ne (off := 9) (t := 88) (by decide +kernel) (by decide) k1 k2
theorem b_M_copy_82 {X : aX} {d : Nat} {post : aO} {vi : Nat → Nat → Int32} {vl : Nat → Nat → Int64} {x1 x2 x3 x4 x5 : Int32} {o6 : Option Value} (k1 : CallOk X d 0 0 k_M_found [.ref 95, .int (2 : Int32)] (mk vi vl) (fun r N' => wp X (d + 1) k_M_copy 0 0 87 [some (.ref 95), some (.int x1), some (.int x2), some (.int x3), some (.int x4), some (.int x5), o6] (pR r []) N' post)) : wp X (d + 1) k_M_copy 0 0 82 [some (.ref 95), some (.int x1), some (.int x2), some (.int x3), some (.int x4), some (.int x5), o6] [] (mk vi vl) post :=
  wr_aload_n (q := 0) (by decide +kernel) rfl rfl <|
  wr_iconst (n := 2) (v := (2 : Int32)) (by decide +kernel) (by decide) <|
  wr_invV (a := 95) (ci := 4) (mid2 := 119) (idx := 69) (b1 := 0) (b2 := 0) (c1 := 0) (c2 := 0) (as := [.int (2 : Int32)]) (st := []) pl_119 rfl (Nat.le_of_ble_eq_true rfl) rfl rfl lq_95 sq_95 (by decide) rfl lm_M_69 im_119 is_119 (by decide +kernel) k1
theorem b_M_copy_87 {X : aX} {d : Nat} {post : aO} {vi : Nat → Nat → Int32} {vl : Nat → Nat → Int64} {x1 x2 x3 x4 x5 y0 : Int32} {o6 : Option Value} (k1 : post (some (.int y0)) (mk vi vl)) : wp X (d + 1) k_M_copy 0 0 87 [some (.ref 95), some (.int x1), some (.int x2), some (.int x3), some (.int x4), some (.int x5), o6] [.int y0] (mk vi vl) post :=
  wr_ret (r := some (.int y0)) (Or.inr (Or.inl ⟨_, rfl, (by decide +kernel), (Or.inl rfl)⟩)) k1
theorem b_M_copy_88 {X : aX} {d : Nat} {post : aO} {vi : Nat → Nat → Int32} {vl : Nat → Nat → Int64} {x1 x2 x3 x4 x5 : Int32} {o6 : Option Value} (k1 : wp X (d + 1) k_M_copy 0 0 91 [some (.ref 95), some (.int x1), some (.int x2), some (.int x3), some (.int x4), some (.int x5), some (.int (0 : Int32))] [] (mk vi vl) post) : wp X (d + 1) k_M_copy 0 0 88 [some (.ref 95), some (.int x1), some (.int x2), some (.int x3), some (.int x4), some (.int x5), o6] [] (mk vi vl) post :=
  wr_iconst (n := 0) (v := (0 : Int32)) (by decide +kernel) (by decide) <|
  wr_istore (i := 6) (by decide +kernel) (by decide) <|
  k1
theorem b_M_copy_91 {X : aX} {d : Nat} {post : aO} {vi : Nat → Nat → Int32} {vl : Nat → Nat → Int64} {x1 x2 x3 x4 x5 x6 : Int32} (k1 : x5 ≤ x6 → wp X (d + 1) k_M_copy 0 0 125 [some (.ref 95), some (.int x1), some (.int x2), some (.int x3), some (.int x4), some (.int x5), some (.int x6)] [] (mk vi vl) post) (k2 : ¬ x5 ≤ x6 → wp X (d + 1) k_M_copy 0 0 98 [some (.ref 95), some (.int x1), some (.int x2), some (.int x3), some (.int x4), some (.int x5), some (.int x6)] [] (mk vi vl) post) : wp X (d + 1) k_M_copy 0 0 91 [some (.ref 95), some (.int x1), some (.int x2), some (.int x3), some (.int x4), some (.int x5), some (.int x6)] [] (mk vi vl) post :=
  wr_iload (i := 6) (by decide +kernel) rfl <|
  wr_iload (i := 5) (by decide +kernel) rfl <|
  wr_icmp_ge (off := 30) (t := 125) (by decide +kernel) (by decide) k1 k2
theorem b_M_copy_98 {X : aX} {d : Nat} {post : aO} {vi : Nat → Nat → Int32} {vl : Nat → Nat → Int64} {x1 x2 x3 x4 x5 x6 : Int32} (q1 : vp_in ((((40 : Int32) * x1) + x2) + x6) 240) (q2 : vp_in x6 40) (k1 : ∀ w, w = up2 vi 102 x6.toNatClampNeg (vi 98 ((((40 : Int32) * x1) + x2) + x6).toNatClampNeg) → wp X (d + 1) k_M_copy 0 0 119 [some (.ref 95), some (.int x1), some (.int x2), some (.int x3), some (.int x4), some (.int x5), some (.int x6)] [] (mk w vl) post) : wp X (d + 1) k_M_copy 0 0 98 [some (.ref 95), some (.int x1), some (.int x2), some (.int x3), some (.int x4), some (.int x5), some (.int x6)] [] (mk vi vl) post :=
  wr_aload_n (q := 0) (by decide +kernel) rfl rfl <|
  wr_getR2 (b := 102) (ci := 4) (k0 := 7) (idx := 28) lq_95 sq_95 (by decide) (by decide) lf_M_28 rfl vq_95_7 lq_102 (by decide +kernel) <|
  wr_iload (i := 6) (by decide +kernel) rfl <|
  wr_aload_n (q := 0) (by decide +kernel) rfl rfl <|
  wr_getR2 (b := 98) (ci := 4) (k0 := 3) (idx := 16) lq_95 sq_95 (by decide) (by decide) lf_M_16 rfl vq_95_3 lq_98 (by decide +kernel) <|
  wr_bipush (n := 40) (v := (40 : Int32)) (by decide +kernel) (by decide) <|
  wr_iload_n (q := 1) (by decide +kernel) rfl rfl <|
  wr_imul (by decide +kernel) <|
  wr_iload_n (q := 2) (by decide +kernel) rfl rfl <|
  wr_iadd (by decide +kernel) <|
  wr_iload (i := 6) (by decide +kernel) rfl <|
  wr_iadd (by decide +kernel) <|
  wr_iald lq_98 sq_98 q1 (by decide +kernel) <|
  wr_iast lq_102 sq_102 q2 (by decide +kernel) <|
  k1 _ rfl
theorem b_M_copy_119 {X : aX} {d : Nat} {post : aO} {vi : Nat → Nat → Int32} {vl : Nat → Nat → Int64} {x1 x2 x3 x4 x5 x6 : Int32} (k1 : wp X (d + 1) k_M_copy 0 0 91 [some (.ref 95), some (.int x1), some (.int x2), some (.int x3), some (.int x4), some (.int x5), some (.int (x6 + (1 : Int32)))] [] (mk vi vl) post) : wp X (d + 1) k_M_copy 0 0 119 [some (.ref 95), some (.int x1), some (.int x2), some (.int x3), some (.int x4), some (.int x5), some (.int x6)] [] (mk vi vl) post :=
  wr_iinc (i := 6) (n := 1) (v := (1 : Int32)) (by decide +kernel) rfl (by decide) (by decide) <|
  wr_goto (off := -31) (t := 91) (by decide +kernel) (by decide) k1
theorem b_M_copy_125 {X : aX} {d : Nat} {post : aO} {vi : Nat → Nat → Int32} {vl : Nat → Nat → Int64} {x1 x2 x3 x4 x5 x6 : Int32} (k1 : wp X (d + 1) k_M_copy 0 0 128 [some (.ref 95), some (.int x1), some (.int x2), some (.int x3), some (.int x4), some (.int x5), some (.int (0 : Int32))] [] (mk vi vl) post) : wp X (d + 1) k_M_copy 0 0 125 [some (.ref 95), some (.int x1), some (.int x2), some (.int x3), some (.int x4), some (.int x5), some (.int x6)] [] (mk vi vl) post :=
  wr_iconst (n := 0) (v := (0 : Int32)) (by decide +kernel) (by decide) <|
  wr_istore (i := 6) (by decide +kernel) (by decide) <|
  k1
theorem b_M_copy_128 {X : aX} {d : Nat} {post : aO} {vi : Nat → Nat → Int32} {vl : Nat → Nat → Int64} {x1 x2 x3 x4 x5 x6 : Int32} (k1 : x5 ≤ x6 → wp X (d + 1) k_M_copy 0 0 163 [some (.ref 95), some (.int x1), some (.int x2), some (.int x3), some (.int x4), some (.int x5), some (.int x6)] [] (mk vi vl) post) (k2 : ¬ x5 ≤ x6 → wp X (d + 1) k_M_copy 0 0 135 [some (.ref 95), some (.int x1), some (.int x2), some (.int x3), some (.int x4), some (.int x5), some (.int x6)] [] (mk vi vl) post) : wp X (d + 1) k_M_copy 0 0 128 [some (.ref 95), some (.int x1), some (.int x2), some (.int x3), some (.int x4), some (.int x5), some (.int x6)] [] (mk vi vl) post :=
  wr_iload (i := 6) (by decide +kernel) rfl <|
  wr_iload (i := 5) (by decide +kernel) rfl <|
  wr_icmp_ge (off := 31) (t := 163) (by decide +kernel) (by decide) k1 k2
theorem b_M_copy_135 {X : aX} {d : Nat} {post : aO} {vi : Nat → Nat → Int32} {vl : Nat → Nat → Int64} {x1 x2 x3 x4 x5 x6 : Int32} (q1 : vp_in x6 40) (q2 : vp_in ((((40 : Int32) * x3) + x4) + x6) 240) (k1 : ∀ w, w = up2 vi 98 ((((40 : Int32) * x3) + x4) + x6).toNatClampNeg (vi 102 x6.toNatClampNeg) → wp X (d + 1) k_M_copy 0 0 157 [some (.ref 95), some (.int x1), some (.int x2), some (.int x3), some (.int x4), some (.int x5), some (.int x6)] [] (mk w vl) post) : wp X (d + 1) k_M_copy 0 0 135 [some (.ref 95), some (.int x1), some (.int x2), some (.int x3), some (.int x4), some (.int x5), some (.int x6)] [] (mk vi vl) post :=
  wr_aload_n (q := 0) (by decide +kernel) rfl rfl <|
  wr_getR2 (b := 98) (ci := 4) (k0 := 3) (idx := 16) lq_95 sq_95 (by decide) (by decide) lf_M_16 rfl vq_95_3 lq_98 (by decide +kernel) <|
  wr_bipush (n := 40) (v := (40 : Int32)) (by decide +kernel) (by decide) <|
  wr_iload_n (q := 3) (by decide +kernel) rfl rfl <|
  wr_imul (by decide +kernel) <|
  wr_iload (i := 4) (by decide +kernel) rfl <|
  wr_iadd (by decide +kernel) <|
  wr_iload (i := 6) (by decide +kernel) rfl <|
  wr_iadd (by decide +kernel) <|
  wr_aload_n (q := 0) (by decide +kernel) rfl rfl <|
  wr_getR2 (b := 102) (ci := 4) (k0 := 7) (idx := 28) lq_95 sq_95 (by decide) (by decide) lf_M_28 rfl vq_95_7 lq_102 (by decide +kernel) <|
  wr_iload (i := 6) (by decide +kernel) rfl <|
  wr_iald lq_102 sq_102 q1 (by decide +kernel) <|
  wr_iast lq_98 sq_98 q2 (by decide +kernel) <|
  k1 _ rfl
theorem b_M_copy_157 {X : aX} {d : Nat} {post : aO} {vi : Nat → Nat → Int32} {vl : Nat → Nat → Int64} {x1 x2 x3 x4 x5 x6 : Int32} (k1 : wp X (d + 1) k_M_copy 0 0 128 [some (.ref 95), some (.int x1), some (.int x2), some (.int x3), some (.int x4), some (.int x5), some (.int (x6 + (1 : Int32)))] [] (mk vi vl) post) : wp X (d + 1) k_M_copy 0 0 157 [some (.ref 95), some (.int x1), some (.int x2), some (.int x3), some (.int x4), some (.int x5), some (.int x6)] [] (mk vi vl) post :=
  wr_iinc (i := 6) (n := 1) (v := (1 : Int32)) (by decide +kernel) rfl (by decide) (by decide) <|
  wr_goto (off := -32) (t := 128) (by decide +kernel) (by decide) k1
theorem b_M_copy_163 {X : aX} {d : Nat} {post : aO} {vi : Nat → Nat → Int32} {vl : Nat → Nat → Int64} {x1 x2 x3 x4 x5 x6 : Int32} (k1 : post (some (.int (1 : Int32))) (mk vi vl)) : wp X (d + 1) k_M_copy 0 0 163 [some (.ref 95), some (.int x1), some (.int x2), some (.int x3), some (.int x4), some (.int x5), some (.int x6)] [] (mk vi vl) post :=
  wr_iconst (n := 1) (v := (1 : Int32)) (by decide +kernel) (by decide) <|
  wr_ret (r := some (.int (1 : Int32))) (Or.inr (Or.inl ⟨_, rfl, (by decide +kernel), (Or.inl rfl)⟩)) k1
theorem b_M_fits_0 {X : aX} {d : Nat} {post : aO} {vi : Nat → Nat → Int32} {vl : Nat → Nat → Int64} {x0 x1 x2 : Int32} (k1 : x0 < 0 → wp X (d + 1) k_M_fits 0 0 19 [some (.int x0), some (.int x1), some (.int x2)] [] (mk vi vl) post) (k2 : ¬ x0 < 0 → wp X (d + 1) k_M_fits 0 0 4 [some (.int x0), some (.int x1), some (.int x2)] [] (mk vi vl) post) : wp X (d + 1) k_M_fits 0 0 0 [some (.int x0), some (.int x1), some (.int x2)] [] (mk vi vl) post :=
  wr_iload_n (q := 0) (by decide +kernel) rfl rfl <|
  wr_if_lt (off := 18) (t := 19) (by decide +kernel) (by decide) k1 k2
theorem b_M_fits_4 {X : aX} {d : Nat} {post : aO} {vi : Nat → Nat → Int32} {vl : Nat → Nat → Int64} {x0 x1 x2 : Int32} (k1 : 0 < (lg_cmp (x0.toInt64 + x1.toInt64) x2.toInt64) → wp X (d + 1) k_M_fits 0 0 19 [some (.int x0), some (.int x1), some (.int x2)] [] (mk vi vl) post) (k2 : ¬ 0 < (lg_cmp (x0.toInt64 + x1.toInt64) x2.toInt64) → wp X (d + 1) k_M_fits 0 0 15 [some (.int x0), some (.int x1), some (.int x2)] [] (mk vi vl) post) : wp X (d + 1) k_M_fits 0 0 4 [some (.int x0), some (.int x1), some (.int x2)] [] (mk vi vl) post :=
  wr_iload_n (q := 0) (by decide +kernel) rfl rfl <|
  wr_i2l (by decide +kernel) <|
  wr_iload_n (q := 1) (by decide +kernel) rfl rfl <|
  wr_i2l (by decide +kernel) <|
  wr_ladd (by decide +kernel) <|
  wr_iload_n (q := 2) (by decide +kernel) rfl rfl <|
  wr_i2l (by decide +kernel) <|
  wr_lcmp (by decide +kernel) <|
  wr_if_gt (off := 7) (t := 19) (by decide +kernel) (by decide) k1 k2
theorem b_M_fits_15 {X : aX} {d : Nat} {post : aO} {vi : Nat → Nat → Int32} {vl : Nat → Nat → Int64} {x0 x1 x2 : Int32} (k1 : wp X (d + 1) k_M_fits 0 0 20 [some (.int x0), some (.int x1), some (.int x2)] [.int (1 : Int32)] (mk vi vl) post) : wp X (d + 1) k_M_fits 0 0 15 [some (.int x0), some (.int x1), some (.int x2)] [] (mk vi vl) post :=
  wr_iconst (n := 1) (v := (1 : Int32)) (by decide +kernel) (by decide) <|
  wr_goto (off := 4) (t := 20) (by decide +kernel) (by decide) k1
theorem b_M_fits_19 {X : aX} {d : Nat} {post : aO} {vi : Nat → Nat → Int32} {vl : Nat → Nat → Int64} {x0 x1 x2 : Int32} (k1 : wp X (d + 1) k_M_fits 0 0 20 [some (.int x0), some (.int x1), some (.int x2)] [.int (0 : Int32)] (mk vi vl) post) : wp X (d + 1) k_M_fits 0 0 19 [some (.int x0), some (.int x1), some (.int x2)] [] (mk vi vl) post :=
  wr_iconst (n := 0) (v := (0 : Int32)) (by decide +kernel) (by decide) <|
  k1
theorem b_M_fits_20 {X : aX} {d : Nat} {post : aO} {vi : Nat → Nat → Int32} {vl : Nat → Nat → Int64} {x0 x1 x2 y0 : Int32} (q1 : y0 = 0 ∨ y0 = 1) (k1 : post (some (.int y0)) (mk vi vl)) : wp X (d + 1) k_M_fits 0 0 20 [some (.int x0), some (.int x1), some (.int x2)] [.int y0] (mk vi vl) post :=
  wr_ret (r := some (.int y0)) (Or.inr (Or.inl ⟨_, rfl, (by decide +kernel), (Or.inr ⟨rfl, q1⟩)⟩)) k1
theorem b_M_mean_0 {X : aX} {d : Nat} {post : aO} {vi : Nat → Nat → Int32} {vl : Nat → Nat → Int64} {x1 : Int32} (k1 : CallOk X d 0 0 k_M_isRow [.int x1] (mk vi vl) (fun r N' => wp X (d + 1) k_M_mean 0 0 4 [some (.ref 95), some (.int x1), none, none, none] (pR r []) N' post)) : wp X (d + 1) k_M_mean 0 0 0 [some (.ref 95), some (.int x1), none, none, none] [] (mk vi vl) post :=
  wr_iload_n (q := 1) (by decide +kernel) rfl rfl <|
  wr_invS (mid2 := 117) (idx := 65) (b1 := 0) (b2 := 0) (c1 := 0) (c2 := 0) (as := [.int x1]) (st := []) pl_117 rfl (Nat.le_of_ble_eq_true rfl) rfl rfl lm_M_65 it_117 (by decide +kernel) k1
theorem b_M_mean_4 {X : aX} {d : Nat} {post : aO} {vi : Nat → Nat → Int32} {vl : Nat → Nat → Int64} {x1 y0 : Int32} {o2 o3 o4 : Option Value} (k1 : ¬ y0 = 0 → wp X (d + 1) k_M_mean 0 0 9 [some (.ref 95), some (.int x1), o2, o3, o4] [] (mk vi vl) post) (k2 : y0 = 0 → wp X (d + 1) k_M_mean 0 0 7 [some (.ref 95), some (.int x1), o2, o3, o4] [] (mk vi vl) post) : wp X (d + 1) k_M_mean 0 0 4 [some (.ref 95), some (.int x1), o2, o3, o4] [.int y0] (mk vi vl) post :=
  wr_if_ne (off := 5) (t := 9) (by decide +kernel) (by decide) k1 k2
theorem b_M_mean_7 {X : aX} {d : Nat} {post : aO} {vi : Nat → Nat → Int32} {vl : Nat → Nat → Int64} {x1 : Int32} {o2 o3 o4 : Option Value} (k1 : post (some (.int (-1 : Int32))) (mk vi vl)) : wp X (d + 1) k_M_mean 0 0 7 [some (.ref 95), some (.int x1), o2, o3, o4] [] (mk vi vl) post :=
  wr_iconst (n := -1) (v := (-1 : Int32)) (by decide +kernel) (by decide) <|
  wr_ret (r := some (.int (-1 : Int32))) (Or.inr (Or.inl ⟨_, rfl, (by decide +kernel), (Or.inl rfl)⟩)) k1
theorem b_M_mean_9 {X : aX} {d : Nat} {post : aO} {vi : Nat → Nat → Int32} {vl : Nat → Nat → Int64} {x1 : Int32} {o2 o3 o4 : Option Value} (q1 : vp_in x1 6) (k1 : 0 ≤ (vi 99 x1.toNatClampNeg) → wp X (d + 1) k_M_mean 0 0 24 [some (.ref 95), some (.int x1), o2, o3, o4] [] (mk vi vl) post) (k2 : ¬ 0 ≤ (vi 99 x1.toNatClampNeg) → wp X (d + 1) k_M_mean 0 0 18 [some (.ref 95), some (.int x1), o2, o3, o4] [] (mk vi vl) post) : wp X (d + 1) k_M_mean 0 0 9 [some (.ref 95), some (.int x1), o2, o3, o4] [] (mk vi vl) post :=
  wr_aload_n (q := 0) (by decide +kernel) rfl rfl <|
  wr_getR2 (b := 99) (ci := 4) (k0 := 4) (idx := 19) lq_95 sq_95 (by decide) (by decide) lf_M_19 rfl vq_95_4 lq_99 (by decide +kernel) <|
  wr_iload_n (q := 1) (by decide +kernel) rfl rfl <|
  wr_iald lq_99 sq_99 q1 (by decide +kernel) <|
  wr_if_ge (off := 9) (t := 24) (by decide +kernel) (by decide) k1 k2
theorem b_M_mean_18 {X : aX} {d : Nat} {post : aO} {vi : Nat → Nat → Int32} {vl : Nat → Nat → Int64} {x1 : Int32} {o2 o3 o4 : Option Value} (k1 : CallOk X d 0 0 k_M_found [.ref 95, .int (1 : Int32)] (mk vi vl) (fun r N' => wp X (d + 1) k_M_mean 0 0 23 [some (.ref 95), some (.int x1), o2, o3, o4] (pR r []) N' post)) : wp X (d + 1) k_M_mean 0 0 18 [some (.ref 95), some (.int x1), o2, o3, o4] [] (mk vi vl) post :=
  wr_aload_n (q := 0) (by decide +kernel) rfl rfl <|
  wr_iconst (n := 1) (v := (1 : Int32)) (by decide +kernel) (by decide) <|
  wr_invV (a := 95) (ci := 4) (mid2 := 119) (idx := 69) (b1 := 0) (b2 := 0) (c1 := 0) (c2 := 0) (as := [.int (1 : Int32)]) (st := []) pl_119 rfl (Nat.le_of_ble_eq_true rfl) rfl rfl lq_95 sq_95 (by decide) rfl lm_M_69 im_119 is_119 (by decide +kernel) k1
theorem b_M_mean_23 {X : aX} {d : Nat} {post : aO} {vi : Nat → Nat → Int32} {vl : Nat → Nat → Int64} {x1 y0 : Int32} {o2 o3 o4 : Option Value} (k1 : post (some (.int y0)) (mk vi vl)) : wp X (d + 1) k_M_mean 0 0 23 [some (.ref 95), some (.int x1), o2, o3, o4] [.int y0] (mk vi vl) post :=
  wr_ret (r := some (.int y0)) (Or.inr (Or.inl ⟨_, rfl, (by decide +kernel), (Or.inl rfl)⟩)) k1
theorem b_M_mean_24 {X : aX} {d : Nat} {post : aO} {vi : Nat → Nat → Int32} {vl : Nat → Nat → Int64} {x1 : Int32} {o2 o3 o4 : Option Value} (q1 : vp_in x1 6) (k1 : ¬ (vi 99 x1.toNatClampNeg) = 0 → wp X (d + 1) k_M_mean 0 0 39 [some (.ref 95), some (.int x1), o2, o3, o4] [] (mk vi vl) post) (k2 : (vi 99 x1.toNatClampNeg) = 0 → wp X (d + 1) k_M_mean 0 0 33 [some (.ref 95), some (.int x1), o2, o3, o4] [] (mk vi vl) post) : wp X (d + 1) k_M_mean 0 0 24 [some (.ref 95), some (.int x1), o2, o3, o4] [] (mk vi vl) post :=
  wr_aload_n (q := 0) (by decide +kernel) rfl rfl <|
  wr_getR2 (b := 99) (ci := 4) (k0 := 4) (idx := 19) lq_95 sq_95 (by decide) (by decide) lf_M_19 rfl vq_95_4 lq_99 (by decide +kernel) <|
  wr_iload_n (q := 1) (by decide +kernel) rfl rfl <|
  wr_iald lq_99 sq_99 q1 (by decide +kernel) <|
  wr_if_ne (off := 9) (t := 39) (by decide +kernel) (by decide) k1 k2
theorem b_M_mean_33 {X : aX} {d : Nat} {post : aO} {vi : Nat → Nat → Int32} {vl : Nat → Nat → Int64} {x1 : Int32} {o2 o3 o4 : Option Value} (k1 : CallOk X d 0 0 k_M_found [.ref 95, .int (4 : Int32)] (mk vi vl) (fun r N' => wp X (d + 1) k_M_mean 0 0 38 [some (.ref 95), some (.int x1), o2, o3, o4] (pR r []) N' post)) : wp X (d + 1) k_M_mean 0 0 33 [some (.ref 95), some (.int x1), o2, o3, o4] [] (mk vi vl) post :=
  wr_aload_n (q := 0) (by decide +kernel) rfl rfl <|
  wr_iconst (n := 4) (v := (4 : Int32)) (by decide +kernel) (by decide) <|
  wr_invV (a := 95) (ci := 4) (mid2 := 119) (idx := 69) (b1 := 0) (b2 := 0) (c1 := 0) (c2 := 0) (as := [.int (4 : Int32)]) (st := []) pl_119 rfl (Nat.le_of_ble_eq_true rfl) rfl rfl lq_95 sq_95 (by decide) rfl lm_M_69 im_119 is_119 (by decide +kernel) k1
theorem b_M_mean_38 {X : aX} {d : Nat} {post : aO} {vi : Nat → Nat → Int32} {vl : Nat → Nat → Int64} {x1 y0 : Int32} {o2 o3 o4 : Option Value} (k1 : post (some (.int y0)) (mk vi vl)) : wp X (d + 1) k_M_mean 0 0 38 [some (.ref 95), some (.int x1), o2, o3, o4] [.int y0] (mk vi vl) post :=
  wr_ret (r := some (.int y0)) (Or.inr (Or.inl ⟨_, rfl, (by decide +kernel), (Or.inl rfl)⟩)) k1
theorem b_M_mean_39 {X : aX} {d : Nat} {post : aO} {vi : Nat → Nat → Int32} {vl : Nat → Nat → Int64} {x1 : Int32} {o2 o3 o4 : Option Value} (k1 : wp X (d + 1) k_M_mean 0 0 44 [some (.ref 95), some (.int x1), some (.long (0 : Int64)), none, some (.int (0 : Int32))] [] (mk vi vl) post) : wp X (d + 1) k_M_mean 0 0 39 [some (.ref 95), some (.int x1), o2, o3, o4] [] (mk vi vl) post :=
  wr_lconst (n := 0) (v := (0 : Int64)) (by decide +kernel) (by decide) <|
  wr_lstore_n (q := 2) (by decide +kernel) rfl (by decide) <|
  wr_iconst (n := 0) (v := (0 : Int32)) (by decide +kernel) (by decide) <|
  wr_istore (i := 4) (by decide +kernel) (by decide) <|
  k1
theorem b_M_mean_44 {X : aX} {d : Nat} {post : aO} {vi : Nat → Nat → Int32} {vl : Nat → Nat → Int64} {x1 x4 : Int32} {x2 : Int64} (q1 : vp_in x1 6) (k1 : (vi 99 x1.toNatClampNeg) ≤ x4 → wp X (d + 1) k_M_mean 0 0 77 [some (.ref 95), some (.int x1), some (.long x2), none, some (.int x4)] [] (mk vi vl) post) (k2 : ¬ (vi 99 x1.toNatClampNeg) ≤ x4 → wp X (d + 1) k_M_mean 0 0 55 [some (.ref 95), some (.int x1), some (.long x2), none, some (.int x4)] [] (mk vi vl) post) : wp X (d + 1) k_M_mean 0 0 44 [some (.ref 95), some (.int x1), some (.long x2), none, some (.int x4)] [] (mk vi vl) post :=
  wr_iload (i := 4) (by decide +kernel) rfl <|
  wr_aload_n (q := 0) (by decide +kernel) rfl rfl <|
  wr_getR2 (b := 99) (ci := 4) (k0 := 4) (idx := 19) lq_95 sq_95 (by decide) (by decide) lf_M_19 rfl vq_95_4 lq_99 (by decide +kernel) <|
  wr_iload_n (q := 1) (by decide +kernel) rfl rfl <|
  wr_iald lq_99 sq_99 q1 (by decide +kernel) <|
  wr_icmp_ge (off := 25) (t := 77) (by decide +kernel) (by decide) k1 k2
theorem b_M_mean_55 {X : aX} {d : Nat} {post : aO} {vi : Nat → Nat → Int32} {vl : Nat → Nat → Int64} {x1 x4 : Int32} {x2 : Int64} (q1 : vp_in (((40 : Int32) * x1) + x4) 240) (k1 : wp X (d + 1) k_M_mean 0 0 44 [some (.ref 95), some (.int x1), some (.long (x2 + ((vi 98 (((40 : Int32) * x1) + x4).toNatClampNeg).toInt64))), none, some (.int (x4 + (1 : Int32)))] [] (mk vi vl) post) : wp X (d + 1) k_M_mean 0 0 55 [some (.ref 95), some (.int x1), some (.long x2), none, some (.int x4)] [] (mk vi vl) post :=
  wr_lload_n (q := 2) (by decide +kernel) rfl rfl <|
  wr_aload_n (q := 0) (by decide +kernel) rfl rfl <|
  wr_getR2 (b := 98) (ci := 4) (k0 := 3) (idx := 16) lq_95 sq_95 (by decide) (by decide) lf_M_16 rfl vq_95_3 lq_98 (by decide +kernel) <|
  wr_bipush (n := 40) (v := (40 : Int32)) (by decide +kernel) (by decide) <|
  wr_iload_n (q := 1) (by decide +kernel) rfl rfl <|
  wr_imul (by decide +kernel) <|
  wr_iload (i := 4) (by decide +kernel) rfl <|
  wr_iadd (by decide +kernel) <|
  wr_iald lq_98 sq_98 q1 (by decide +kernel) <|
  wr_i2l (by decide +kernel) <|
  wr_ladd (by decide +kernel) <|
  wr_lstore_n (q := 2) (by decide +kernel) rfl (by decide) <|
  wr_iinc (i := 4) (n := 1) (v := (1 : Int32)) (by decide +kernel) rfl (by decide) (by decide) <|
  wr_goto (off := -30) (t := 44) (by decide +kernel) (by decide) k1
theorem b_M_mean_77 {X : aX} {d : Nat} {post : aO} {vi : Nat → Nat → Int32} {vl : Nat → Nat → Int64} {x1 x4 : Int32} {x2 : Int64} (q1 : vp_in x1 6) (q2 : ¬ ((vi 99 x1.toNatClampNeg).toInt64) = 0) (k1 : CallOk X d 0 0 k_M_tells [.ref 95, .int ((x2 / ((vi 99 x1.toNatClampNeg).toInt64)).toInt32), .int (1 : Int32)] (mk vi vl) (fun r N' => wp X (d + 1) k_M_mean 0 0 92 [some (.ref 95), some (.int x1), some (.long x2), none, some (.int x4)] (pR r []) N' post)) : wp X (d + 1) k_M_mean 0 0 77 [some (.ref 95), some (.int x1), some (.long x2), none, some (.int x4)] [] (mk vi vl) post :=
  wr_aload_n (q := 0) (by decide +kernel) rfl rfl <|
  wr_lload_n (q := 2) (by decide +kernel) rfl rfl <|
  wr_aload_n (q := 0) (by decide +kernel) rfl rfl <|
  wr_getR2 (b := 99) (ci := 4) (k0 := 4) (idx := 19) lq_95 sq_95 (by decide) (by decide) lf_M_19 rfl vq_95_4 lq_99 (by decide +kernel) <|
  wr_iload_n (q := 1) (by decide +kernel) rfl rfl <|
  wr_iald lq_99 sq_99 q1 (by decide +kernel) <|
  wr_i2l (by decide +kernel) <|
  wr_ldiv (by decide +kernel) q2 <|
  wr_l2i (by decide +kernel) <|
  wr_iconst (n := 1) (v := (1 : Int32)) (by decide +kernel) (by decide) <|
  wr_invV (a := 95) (ci := 4) (mid2 := 123) (idx := 81) (b1 := 0) (b2 := 0) (c1 := 0) (c2 := 0) (as := [.int ((x2 / ((vi 99 x1.toNatClampNeg).toInt64)).toInt32), .int (1 : Int32)]) (st := []) pl_123 rfl (Nat.le_of_ble_eq_true rfl) rfl rfl lq_95 sq_95 (by decide) rfl lm_M_81 im_123 is_123 (by decide +kernel) k1
theorem b_M_mean_92 {X : aX} {d : Nat} {post : aO} {vi : Nat → Nat → Int32} {vl : Nat → Nat → Int64} {x1 x4 y0 : Int32} {x2 : Int64} (k1 : post (some (.int y0)) (mk vi vl)) : wp X (d + 1) k_M_mean 0 0 92 [some (.ref 95), some (.int x1), some (.long x2), none, some (.int x4)] [.int y0] (mk vi vl) post :=
  wr_ret (r := some (.int y0)) (Or.inr (Or.inl ⟨_, rfl, (by decide +kernel), (Or.inl rfl)⟩)) k1
theorem b_M_text_0 {X : aX} {d : Nat} {post : aO} {vi : Nat → Nat → Int32} {vl : Nat → Nat → Int64} {x1 x2 : Int32} (k1 : CallOk X d 0 0 k_M_isText [.int x1] (mk vi vl) (fun r N' => wp X (d + 1) k_M_text 0 0 4 [some (.ref 95), some (.int x1), some (.int x2), none] (pR r []) N' post)) : wp X (d + 1) k_M_text 0 0 0 [some (.ref 95), some (.int x1), some (.int x2), none] [] (mk vi vl) post :=
  wr_iload_n (q := 1) (by decide +kernel) rfl rfl <|
  wr_invS (mid2 := 129) (idx := 88) (b1 := 0) (b2 := 0) (c1 := 0) (c2 := 0) (as := [.int x1]) (st := []) pl_129 rfl (Nat.le_of_ble_eq_true rfl) rfl rfl lm_M_88 it_129 (by decide +kernel) k1
theorem b_M_text_4 {X : aX} {d : Nat} {post : aO} {vi : Nat → Nat → Int32} {vl : Nat → Nat → Int64} {x1 x2 y0 : Int32} {o3 : Option Value} (k1 : y0 = 0 → wp X (d + 1) k_M_text 0 0 13 [some (.ref 95), some (.int x1), some (.int x2), o3] [] (mk vi vl) post) (k2 : ¬ y0 = 0 → wp X (d + 1) k_M_text 0 0 7 [some (.ref 95), some (.int x1), some (.int x2), o3] [] (mk vi vl) post) : wp X (d + 1) k_M_text 0 0 4 [some (.ref 95), some (.int x1), some (.int x2), o3] [.int y0] (mk vi vl) post :=
  wr_if_eq (off := 9) (t := 13) (by decide +kernel) (by decide) k1 k2
theorem b_M_text_7 {X : aX} {d : Nat} {post : aO} {vi : Nat → Nat → Int32} {vl : Nat → Nat → Int64} {x1 x2 : Int32} {o3 : Option Value} (k1 : x2 ≤ (60 : Int32) → wp X (d + 1) k_M_text 0 0 15 [some (.ref 95), some (.int x1), some (.int x2), o3] [] (mk vi vl) post) (k2 : ¬ x2 ≤ (60 : Int32) → wp X (d + 1) k_M_text 0 0 13 [some (.ref 95), some (.int x1), some (.int x2), o3] [] (mk vi vl) post) : wp X (d + 1) k_M_text 0 0 7 [some (.ref 95), some (.int x1), some (.int x2), o3] [] (mk vi vl) post :=
  wr_iload_n (q := 2) (by decide +kernel) rfl rfl <|
  wr_bipush (n := 60) (v := (60 : Int32)) (by decide +kernel) (by decide) <|
  wr_icmp_le (off := 5) (t := 15) (by decide +kernel) (by decide) k1 k2
theorem b_M_text_13 {X : aX} {d : Nat} {post : aO} {vi : Nat → Nat → Int32} {vl : Nat → Nat → Int64} {x1 x2 : Int32} {o3 : Option Value} (k1 : post (some (.int (-1 : Int32))) (mk vi vl)) : wp X (d + 1) k_M_text 0 0 13 [some (.ref 95), some (.int x1), some (.int x2), o3] [] (mk vi vl) post :=
  wr_iconst (n := -1) (v := (-1 : Int32)) (by decide +kernel) (by decide) <|
  wr_ret (r := some (.int (-1 : Int32))) (Or.inr (Or.inl ⟨_, rfl, (by decide +kernel), (Or.inl rfl)⟩)) k1
theorem b_M_text_15 {X : aX} {d : Nat} {post : aO} {vi : Nat → Nat → Int32} {vl : Nat → Nat → Int64} {x1 x2 : Int32} {o3 : Option Value} (k1 : 0 ≤ x2 → wp X (d + 1) k_M_text 0 0 25 [some (.ref 95), some (.int x1), some (.int x2), o3] [] (mk vi vl) post) (k2 : ¬ 0 ≤ x2 → wp X (d + 1) k_M_text 0 0 19 [some (.ref 95), some (.int x1), some (.int x2), o3] [] (mk vi vl) post) : wp X (d + 1) k_M_text 0 0 15 [some (.ref 95), some (.int x1), some (.int x2), o3] [] (mk vi vl) post :=
  wr_iload_n (q := 2) (by decide +kernel) rfl rfl <|
  wr_if_ge (off := 9) (t := 25) (by decide +kernel) (by decide) k1 k2
theorem b_M_text_19 {X : aX} {d : Nat} {post : aO} {vi : Nat → Nat → Int32} {vl : Nat → Nat → Int64} {x1 x2 : Int32} {o3 : Option Value} (k1 : CallOk X d 0 0 k_M_found [.ref 95, .int (5 : Int32)] (mk vi vl) (fun r N' => wp X (d + 1) k_M_text 0 0 24 [some (.ref 95), some (.int x1), some (.int x2), o3] (pR r []) N' post)) : wp X (d + 1) k_M_text 0 0 19 [some (.ref 95), some (.int x1), some (.int x2), o3] [] (mk vi vl) post :=
  wr_aload_n (q := 0) (by decide +kernel) rfl rfl <|
  wr_iconst (n := 5) (v := (5 : Int32)) (by decide +kernel) (by decide) <|
  wr_invV (a := 95) (ci := 4) (mid2 := 119) (idx := 69) (b1 := 0) (b2 := 0) (c1 := 0) (c2 := 0) (as := [.int (5 : Int32)]) (st := []) pl_119 rfl (Nat.le_of_ble_eq_true rfl) rfl rfl lq_95 sq_95 (by decide) rfl lm_M_69 im_119 is_119 (by decide +kernel) k1
theorem b_M_text_24 {X : aX} {d : Nat} {post : aO} {vi : Nat → Nat → Int32} {vl : Nat → Nat → Int64} {x1 x2 y0 : Int32} {o3 : Option Value} (k1 : post (some (.int y0)) (mk vi vl)) : wp X (d + 1) k_M_text 0 0 24 [some (.ref 95), some (.int x1), some (.int x2), o3] [.int y0] (mk vi vl) post :=
  wr_ret (r := some (.int y0)) (Or.inr (Or.inl ⟨_, rfl, (by decide +kernel), (Or.inl rfl)⟩)) k1
theorem b_M_text_25 {X : aX} {d : Nat} {post : aO} {vi : Nat → Nat → Int32} {vl : Nat → Nat → Int64} {x1 x2 : Int32} {o3 : Option Value} (q1 : vp_in x1 4) (k1 : ∀ w, w = up2 vi 101 x1.toNatClampNeg x2 → wp X (d + 1) k_M_text 0 0 32 [some (.ref 95), some (.int x1), some (.int x2), o3] [] (mk w vl) post) : wp X (d + 1) k_M_text 0 0 25 [some (.ref 95), some (.int x1), some (.int x2), o3] [] (mk vi vl) post :=
  wr_aload_n (q := 0) (by decide +kernel) rfl rfl <|
  wr_getR2 (b := 101) (ci := 4) (k0 := 6) (idx := 25) lq_95 sq_95 (by decide) (by decide) lf_M_25 rfl vq_95_6 lq_101 (by decide +kernel) <|
  wr_iload_n (q := 1) (by decide +kernel) rfl rfl <|
  wr_iload_n (q := 2) (by decide +kernel) rfl rfl <|
  wr_iast lq_101 sq_101 q1 (by decide +kernel) <|
  k1 _ rfl
theorem b_M_text_32 {X : aX} {d : Nat} {post : aO} {vi : Nat → Nat → Int32} {vl : Nat → Nat → Int64} {x1 x2 : Int32} {o3 : Option Value} (k1 : wp X (d + 1) k_M_text 0 0 34 [some (.ref 95), some (.int x1), some (.int x2), some (.int (0 : Int32))] [] (mk vi vl) post) : wp X (d + 1) k_M_text 0 0 32 [some (.ref 95), some (.int x1), some (.int x2), o3] [] (mk vi vl) post :=
  wr_iconst (n := 0) (v := (0 : Int32)) (by decide +kernel) (by decide) <|
  wr_istore_n (q := 3) (by decide +kernel) rfl (by decide) <|
  k1
theorem b_M_text_34 {X : aX} {d : Nat} {post : aO} {vi : Nat → Nat → Int32} {vl : Nat → Nat → Int64} {x1 x2 x3 : Int32} (k1 : (60 : Int32) ≤ x3 → wp X (d + 1) k_M_text 0 0 59 [some (.ref 95), some (.int x1), some (.int x2), some (.int x3)] [] (mk vi vl) post) (k2 : ¬ (60 : Int32) ≤ x3 → wp X (d + 1) k_M_text 0 0 40 [some (.ref 95), some (.int x1), some (.int x2), some (.int x3)] [] (mk vi vl) post) : wp X (d + 1) k_M_text 0 0 34 [some (.ref 95), some (.int x1), some (.int x2), some (.int x3)] [] (mk vi vl) post :=
  wr_iload_n (q := 3) (by decide +kernel) rfl rfl <|
  wr_bipush (n := 60) (v := (60 : Int32)) (by decide +kernel) (by decide) <|
  wr_icmp_ge (off := 22) (t := 59) (by decide +kernel) (by decide) k1 k2
theorem b_M_text_40 {X : aX} {d : Nat} {post : aO} {vi : Nat → Nat → Int32} {vl : Nat → Nat → Int64} {x1 x2 x3 : Int32} (q1 : vp_in (((60 : Int32) * x1) + x3) 240) (k1 : ∀ w, w = up2 vi 100 (((60 : Int32) * x1) + x3).toNatClampNeg (32 : Int32) → wp X (d + 1) k_M_text 0 0 53 [some (.ref 95), some (.int x1), some (.int x2), some (.int x3)] [] (mk w vl) post) : wp X (d + 1) k_M_text 0 0 40 [some (.ref 95), some (.int x1), some (.int x2), some (.int x3)] [] (mk vi vl) post :=
  wr_aload_n (q := 0) (by decide +kernel) rfl rfl <|
  wr_getR2 (b := 100) (ci := 4) (k0 := 5) (idx := 22) lq_95 sq_95 (by decide) (by decide) lf_M_22 rfl vq_95_5 lq_100 (by decide +kernel) <|
  wr_bipush (n := 60) (v := (60 : Int32)) (by decide +kernel) (by decide) <|
  wr_iload_n (q := 1) (by decide +kernel) rfl rfl <|
  wr_imul (by decide +kernel) <|
  wr_iload_n (q := 3) (by decide +kernel) rfl rfl <|
  wr_iadd (by decide +kernel) <|
  wr_bipush (n := 32) (v := (32 : Int32)) (by decide +kernel) (by decide) <|
  wr_iast lq_100 sq_100 q1 (by decide +kernel) <|
  k1 _ rfl
theorem b_M_text_53 {X : aX} {d : Nat} {post : aO} {vi : Nat → Nat → Int32} {vl : Nat → Nat → Int64} {x1 x2 x3 : Int32} (k1 : wp X (d + 1) k_M_text 0 0 34 [some (.ref 95), some (.int x1), some (.int x2), some (.int (x3 + (1 : Int32)))] [] (mk vi vl) post) : wp X (d + 1) k_M_text 0 0 53 [some (.ref 95), some (.int x1), some (.int x2), some (.int x3)] [] (mk vi vl) post :=
  wr_iinc (i := 3) (n := 1) (v := (1 : Int32)) (by decide +kernel) rfl (by decide) (by decide) <|
  wr_goto (off := -22) (t := 34) (by decide +kernel) (by decide) k1
theorem b_M_text_59 {X : aX} {d : Nat} {post : aO} {vi : Nat → Nat → Int32} {vl : Nat → Nat → Int64} {x1 x2 x3 : Int32} (k1 : post (some (.int x2)) (mk vi vl)) : wp X (d + 1) k_M_text 0 0 59 [some (.ref 95), some (.int x1), some (.int x2), some (.int x3)] [] (mk vi vl) post :=
  wr_iload_n (q := 2) (by decide +kernel) rfl rfl <|
  wr_ret (r := some (.int x2)) (Or.inr (Or.inl ⟨_, rfl, (by decide +kernel), (Or.inl rfl)⟩)) k1
theorem b_M_isText_0 {X : aX} {d : Nat} {post : aO} {vi : Nat → Nat → Int32} {vl : Nat → Nat → Int64} {x0 : Int32} (k1 : CallOk X d 0 0 k_M_in [.long x0.toInt64, .long (0 : Int64), .long (3 : Int64)] (mk vi vl) (fun r N' => wp X (d + 1) k_M_isText 0 0 9 [some (.int x0)] (pR r []) N' post)) : wp X (d + 1) k_M_isText 0 0 0 [some (.int x0)] [] (mk vi vl) post :=
  wr_iload_n (q := 0) (by decide +kernel) rfl rfl <|
  wr_i2l (by decide +kernel) <|
  wr_lconst (n := 0) (v := (0 : Int64)) (by decide +kernel) (by decide) <|
  wr_ldc2 (i := 63) (v := (3 : Int64)) (by decide +kernel) lj_M_63 <|
  wr_invS (mid2 := 118) (idx := 59) (b1 := 0) (b2 := 0) (c1 := 0) (c2 := 0) (as := [.long x0.toInt64, .long (0 : Int64), .long (3 : Int64)]) (st := []) pl_118 rfl (Nat.le_of_ble_eq_true rfl) rfl rfl lm_M_59 it_118 (by decide +kernel) k1
theorem b_M_isText_9 {X : aX} {d : Nat} {post : aO} {vi : Nat → Nat → Int32} {vl : Nat → Nat → Int64} {x0 y0 : Int32} (q1 : y0 = 0 ∨ y0 = 1) (k1 : post (some (.int y0)) (mk vi vl)) : wp X (d + 1) k_M_isText 0 0 9 [some (.int x0)] [.int y0] (mk vi vl) post :=
  wr_ret (r := some (.int y0)) (Or.inr (Or.inl ⟨_, rfl, (by decide +kernel), (Or.inr ⟨rfl, q1⟩)⟩)) k1
theorem b_M_put_0 {X : aX} {d : Nat} {post : aO} {vi : Nat → Nat → Int32} {vl : Nat → Nat → Int64} {x1 x2 x3 : Int32} (k1 : CallOk X d 0 0 k_M_isText [.int x1] (mk vi vl) (fun r N' => wp X (d + 1) k_M_put 0 0 4 [some (.ref 95), some (.int x1), some (.int x2), some (.int x3), none] (pR r []) N' post)) : wp X (d + 1) k_M_put 0 0 0 [some (.ref 95), some (.int x1), some (.int x2), some (.int x3), none] [] (mk vi vl) post :=
  wr_iload_n (q := 1) (by decide +kernel) rfl rfl <|
  wr_invS (mid2 := 129) (idx := 88) (b1 := 0) (b2 := 0) (c1 := 0) (c2 := 0) (as := [.int x1]) (st := []) pl_129 rfl (Nat.le_of_ble_eq_true rfl) rfl rfl lm_M_88 it_129 (by decide +kernel) k1
theorem b_M_put_4 {X : aX} {d : Nat} {post : aO} {vi : Nat → Nat → Int32} {vl : Nat → Nat → Int64} {x1 x2 x3 y0 : Int32} {o4 : Option Value} (k1 : ¬ y0 = 0 → wp X (d + 1) k_M_put 0 0 9 [some (.ref 95), some (.int x1), some (.int x2), some (.int x3), o4] [] (mk vi vl) post) (k2 : y0 = 0 → wp X (d + 1) k_M_put 0 0 7 [some (.ref 95), some (.int x1), some (.int x2), some (.int x3), o4] [] (mk vi vl) post) : wp X (d + 1) k_M_put 0 0 4 [some (.ref 95), some (.int x1), some (.int x2), some (.int x3), o4] [.int y0] (mk vi vl) post :=
  wr_if_ne (off := 5) (t := 9) (by decide +kernel) (by decide) k1 k2
theorem b_M_put_7 {X : aX} {d : Nat} {post : aO} {vi : Nat → Nat → Int32} {vl : Nat → Nat → Int64} {x1 x2 x3 : Int32} {o4 : Option Value} (k1 : post (some (.int (-1 : Int32))) (mk vi vl)) : wp X (d + 1) k_M_put 0 0 7 [some (.ref 95), some (.int x1), some (.int x2), some (.int x3), o4] [] (mk vi vl) post :=
  wr_iconst (n := -1) (v := (-1 : Int32)) (by decide +kernel) (by decide) <|
  wr_ret (r := some (.int (-1 : Int32))) (Or.inr (Or.inl ⟨_, rfl, (by decide +kernel), (Or.inl rfl)⟩)) k1
theorem b_M_put_9 {X : aX} {d : Nat} {post : aO} {vi : Nat → Nat → Int32} {vl : Nat → Nat → Int64} {x1 x2 x3 : Int32} {o4 : Option Value} (q1 : vp_in x1 4) (k1 : 0 ≤ (vi 101 x1.toNatClampNeg) → wp X (d + 1) k_M_put 0 0 24 [some (.ref 95), some (.int x1), some (.int x2), some (.int x3), o4] [] (mk vi vl) post) (k2 : ¬ 0 ≤ (vi 101 x1.toNatClampNeg) → wp X (d + 1) k_M_put 0 0 18 [some (.ref 95), some (.int x1), some (.int x2), some (.int x3), o4] [] (mk vi vl) post) : wp X (d + 1) k_M_put 0 0 9 [some (.ref 95), some (.int x1), some (.int x2), some (.int x3), o4] [] (mk vi vl) post :=
  wr_aload_n (q := 0) (by decide +kernel) rfl rfl <|
  wr_getR2 (b := 101) (ci := 4) (k0 := 6) (idx := 25) lq_95 sq_95 (by decide) (by decide) lf_M_25 rfl vq_95_6 lq_101 (by decide +kernel) <|
  wr_iload_n (q := 1) (by decide +kernel) rfl rfl <|
  wr_iald lq_101 sq_101 q1 (by decide +kernel) <|
  wr_if_ge (off := 9) (t := 24) (by decide +kernel) (by decide) k1 k2
theorem b_M_put_18 {X : aX} {d : Nat} {post : aO} {vi : Nat → Nat → Int32} {vl : Nat → Nat → Int64} {x1 x2 x3 : Int32} {o4 : Option Value} (k1 : CallOk X d 0 0 k_M_found [.ref 95, .int (1 : Int32)] (mk vi vl) (fun r N' => wp X (d + 1) k_M_put 0 0 23 [some (.ref 95), some (.int x1), some (.int x2), some (.int x3), o4] (pR r []) N' post)) : wp X (d + 1) k_M_put 0 0 18 [some (.ref 95), some (.int x1), some (.int x2), some (.int x3), o4] [] (mk vi vl) post :=
  wr_aload_n (q := 0) (by decide +kernel) rfl rfl <|
  wr_iconst (n := 1) (v := (1 : Int32)) (by decide +kernel) (by decide) <|
  wr_invV (a := 95) (ci := 4) (mid2 := 119) (idx := 69) (b1 := 0) (b2 := 0) (c1 := 0) (c2 := 0) (as := [.int (1 : Int32)]) (st := []) pl_119 rfl (Nat.le_of_ble_eq_true rfl) rfl rfl lq_95 sq_95 (by decide) rfl lm_M_69 im_119 is_119 (by decide +kernel) k1
theorem b_M_put_23 {X : aX} {d : Nat} {post : aO} {vi : Nat → Nat → Int32} {vl : Nat → Nat → Int64} {x1 x2 x3 y0 : Int32} {o4 : Option Value} (k1 : post (some (.int y0)) (mk vi vl)) : wp X (d + 1) k_M_put 0 0 23 [some (.ref 95), some (.int x1), some (.int x2), some (.int x3), o4] [.int y0] (mk vi vl) post :=
  wr_ret (r := some (.int y0)) (Or.inr (Or.inl ⟨_, rfl, (by decide +kernel), (Or.inl rfl)⟩)) k1
theorem b_M_put_24 {X : aX} {d : Nat} {post : aO} {vi : Nat → Nat → Int32} {vl : Nat → Nat → Int64} {x1 x2 x3 : Int32} {o4 : Option Value} (q1 : vp_in x1 4) (k1 : CallOk X d 0 0 k_M_in [.long x2.toInt64, .long (0 : Int64), .long (((vi 101 x1.toNatClampNeg) - (1 : Int32)).toInt64)] (mk vi vl) (fun r N' => wp X (d + 1) k_M_put 0 0 39 [some (.ref 95), some (.int x1), some (.int x2), some (.int x3), o4] (pR r []) N' post)) : wp X (d + 1) k_M_put 0 0 24 [some (.ref 95), some (.int x1), some (.int x2), some (.int x3), o4] [] (mk vi vl) post :=
  wr_iload_n (q := 2) (by decide +kernel) rfl rfl <|
  wr_i2l (by decide +kernel) <|
  wr_lconst (n := 0) (v := (0 : Int64)) (by decide +kernel) (by decide) <|
  wr_aload_n (q := 0) (by decide +kernel) rfl rfl <|
  wr_getR2 (b := 101) (ci := 4) (k0 := 6) (idx := 25) lq_95 sq_95 (by decide) (by decide) lf_M_25 rfl vq_95_6 lq_101 (by decide +kernel) <|
  wr_iload_n (q := 1) (by decide +kernel) rfl rfl <|
  wr_iald lq_101 sq_101 q1 (by decide +kernel) <|
  wr_iconst (n := 1) (v := (1 : Int32)) (by decide +kernel) (by decide) <|
  wr_isub (by decide +kernel) <|
  wr_i2l (by decide +kernel) <|
  wr_invS (mid2 := 118) (idx := 59) (b1 := 0) (b2 := 0) (c1 := 0) (c2 := 0) (as := [.long x2.toInt64, .long (0 : Int64), .long (((vi 101 x1.toNatClampNeg) - (1 : Int32)).toInt64)]) (st := []) pl_118 rfl (Nat.le_of_ble_eq_true rfl) rfl rfl lm_M_59 it_118 (by decide +kernel) k1
theorem b_M_put_39 {X : aX} {d : Nat} {post : aO} {vi : Nat → Nat → Int32} {vl : Nat → Nat → Int64} {x1 x2 x3 y0 : Int32} {o4 : Option Value} (k1 : ¬ y0 = 0 → wp X (d + 1) k_M_put 0 0 48 [some (.ref 95), some (.int x1), some (.int x2), some (.int x3), o4] [] (mk vi vl) post) (k2 : y0 = 0 → wp X (d + 1) k_M_put 0 0 42 [some (.ref 95), some (.int x1), some (.int x2), some (.int x3), o4] [] (mk vi vl) post) : wp X (d + 1) k_M_put 0 0 39 [some (.ref 95), some (.int x1), some (.int x2), some (.int x3), o4] [.int y0] (mk vi vl) post :=
  wr_if_ne (off := 9) (t := 48) (by decide +kernel) (by decide) k1 k2
theorem b_M_put_42 {X : aX} {d : Nat} {post : aO} {vi : Nat → Nat → Int32} {vl : Nat → Nat → Int64} {x1 x2 x3 : Int32} {o4 : Option Value} (k1 : CallOk X d 0 0 k_M_found [.ref 95, .int (2 : Int32)] (mk vi vl) (fun r N' => wp X (d + 1) k_M_put 0 0 47 [some (.ref 95), some (.int x1), some (.int x2), some (.int x3), o4] (pR r []) N' post)) : wp X (d + 1) k_M_put 0 0 42 [some (.ref 95), some (.int x1), some (.int x2), some (.int x3), o4] [] (mk vi vl) post :=
  wr_aload_n (q := 0) (by decide +kernel) rfl rfl <|
  wr_iconst (n := 2) (v := (2 : Int32)) (by decide +kernel) (by decide) <|
  wr_invV (a := 95) (ci := 4) (mid2 := 119) (idx := 69) (b1 := 0) (b2 := 0) (c1 := 0) (c2 := 0) (as := [.int (2 : Int32)]) (st := []) pl_119 rfl (Nat.le_of_ble_eq_true rfl) rfl rfl lq_95 sq_95 (by decide) rfl lm_M_69 im_119 is_119 (by decide +kernel) k1
theorem b_M_put_47 {X : aX} {d : Nat} {post : aO} {vi : Nat → Nat → Int32} {vl : Nat → Nat → Int64} {x1 x2 x3 y0 : Int32} {o4 : Option Value} (k1 : post (some (.int y0)) (mk vi vl)) : wp X (d + 1) k_M_put 0 0 47 [some (.ref 95), some (.int x1), some (.int x2), some (.int x3), o4] [.int y0] (mk vi vl) post :=
  wr_ret (r := some (.int y0)) (Or.inr (Or.inl ⟨_, rfl, (by decide +kernel), (Or.inl rfl)⟩)) k1
theorem b_M_put_48 {X : aX} {d : Nat} {post : aO} {vi : Nat → Nat → Int32} {vl : Nat → Nat → Int64} {x1 x2 x3 : Int32} {o4 : Option Value} (q1 : vp_in (((60 : Int32) * x1) + x2) 240) (q2 : vp_in (((60 : Int32) * x1) + x2) 240) (k1 : ∀ w, w = up2 vi 100 (((60 : Int32) * x1) + x2).toNatClampNeg x3.toInt8.toInt32 → wp X (d + 1) k_M_put 0 0 74 [some (.ref 95), some (.int x1), some (.int x2), some (.int x3), some (.int (vi 100 (((60 : Int32) * x1) + x2).toNatClampNeg))] [] (mk w vl) post) : wp X (d + 1) k_M_put 0 0 48 [some (.ref 95), some (.int x1), some (.int x2), some (.int x3), o4] [] (mk vi vl) post :=
  wr_aload_n (q := 0) (by decide +kernel) rfl rfl <|
  wr_getR2 (b := 100) (ci := 4) (k0 := 5) (idx := 22) lq_95 sq_95 (by decide) (by decide) lf_M_22 rfl vq_95_5 lq_100 (by decide +kernel) <|
  wr_bipush (n := 60) (v := (60 : Int32)) (by decide +kernel) (by decide) <|
  wr_iload_n (q := 1) (by decide +kernel) rfl rfl <|
  wr_imul (by decide +kernel) <|
  wr_iload_n (q := 2) (by decide +kernel) rfl rfl <|
  wr_iadd (by decide +kernel) <|
  wr_iald lq_100 sq_100 q1 (by decide +kernel) <|
  wr_istore (i := 4) (by decide +kernel) (by decide) <|
  wr_aload_n (q := 0) (by decide +kernel) rfl rfl <|
  wr_getR2 (b := 100) (ci := 4) (k0 := 5) (idx := 22) lq_95 sq_95 (by decide) (by decide) lf_M_22 rfl vq_95_5 lq_100 (by decide +kernel) <|
  wr_bipush (n := 60) (v := (60 : Int32)) (by decide +kernel) (by decide) <|
  wr_iload_n (q := 1) (by decide +kernel) rfl rfl <|
  wr_imul (by decide +kernel) <|
  wr_iload_n (q := 2) (by decide +kernel) rfl rfl <|
  wr_iadd (by decide +kernel) <|
  wr_iload_n (q := 3) (by decide +kernel) rfl rfl <|
  wr_i2b (by decide +kernel) <|
  wr_iast lq_100 sq_100 q2 (by decide +kernel) <|
  k1 _ rfl
theorem b_M_put_74 {X : aX} {d : Nat} {post : aO} {vi : Nat → Nat → Int32} {vl : Nat → Nat → Int64} {x1 x2 x3 x4 : Int32} (k1 : post (some (.int (x4 + (1000 : Int32)))) (mk vi vl)) : wp X (d + 1) k_M_put 0 0 74 [some (.ref 95), some (.int x1), some (.int x2), some (.int x3), some (.int x4)] [] (mk vi vl) post :=
  wr_iload (i := 4) (by decide +kernel) rfl <|
  wr_sipush (n := 1000) (v := (1000 : Int32)) (by decide +kernel) (by decide) <|
  wr_iadd (by decide +kernel) <|
  wr_ret (r := some (.int (x4 + (1000 : Int32)))) (Or.inr (Or.inl ⟨_, rfl, (by decide +kernel), (Or.inl rfl)⟩)) k1
theorem b_M_fault_0 {X : aX} {d : Nat} {post : aO} {vi : Nat → Nat → Int32} {vl : Nat → Nat → Int64} {x1 : Int32} (k1 : CallOk X d 0 0 k_M_isText [.int x1] (mk vi vl) (fun r N' => wp X (d + 1) k_M_fault 0 0 4 [some (.ref 95), some (.int x1)] (pR r []) N' post)) : wp X (d + 1) k_M_fault 0 0 0 [some (.ref 95), some (.int x1)] [] (mk vi vl) post :=
  wr_iload_n (q := 1) (by decide +kernel) rfl rfl <|
  wr_invS (mid2 := 129) (idx := 88) (b1 := 0) (b2 := 0) (c1 := 0) (c2 := 0) (as := [.int x1]) (st := []) pl_129 rfl (Nat.le_of_ble_eq_true rfl) rfl rfl lm_M_88 it_129 (by decide +kernel) k1
theorem b_M_fault_4 {X : aX} {d : Nat} {post : aO} {vi : Nat → Nat → Int32} {vl : Nat → Nat → Int64} {x1 y0 : Int32} (k1 : ¬ y0 = 0 → wp X (d + 1) k_M_fault 0 0 9 [some (.ref 95), some (.int x1)] [] (mk vi vl) post) (k2 : y0 = 0 → wp X (d + 1) k_M_fault 0 0 7 [some (.ref 95), some (.int x1)] [] (mk vi vl) post) : wp X (d + 1) k_M_fault 0 0 4 [some (.ref 95), some (.int x1)] [.int y0] (mk vi vl) post :=
  wr_if_ne (off := 5) (t := 9) (by decide +kernel) (by decide) k1 k2
theorem b_M_fault_7 {X : aX} {d : Nat} {post : aO} {vi : Nat → Nat → Int32} {vl : Nat → Nat → Int64} {x1 : Int32} (k1 : post (some (.int (-1 : Int32))) (mk vi vl)) : wp X (d + 1) k_M_fault 0 0 7 [some (.ref 95), some (.int x1)] [] (mk vi vl) post :=
  wr_iconst (n := -1) (v := (-1 : Int32)) (by decide +kernel) (by decide) <|
  wr_ret (r := some (.int (-1 : Int32))) (Or.inr (Or.inl ⟨_, rfl, (by decide +kernel), (Or.inl rfl)⟩)) k1
theorem b_M_fault_9 {X : aX} {d : Nat} {post : aO} {vi : Nat → Nat → Int32} {vl : Nat → Nat → Int64} {x1 : Int32} (q1 : vp_in x1 4) (k1 : 0 ≤ (vi 101 x1.toNatClampNeg) → wp X (d + 1) k_M_fault 0 0 26 [some (.ref 95), some (.int x1)] [] (mk vi vl) post) (k2 : ¬ 0 ≤ (vi 101 x1.toNatClampNeg) → wp X (d + 1) k_M_fault 0 0 18 [some (.ref 95), some (.int x1)] [] (mk vi vl) post) : wp X (d + 1) k_M_fault 0 0 9 [some (.ref 95), some (.int x1)] [] (mk vi vl) post :=
  wr_aload_n (q := 0) (by decide +kernel) rfl rfl <|
  wr_getR2 (b := 101) (ci := 4) (k0 := 6) (idx := 25) lq_95 sq_95 (by decide) (by decide) lf_M_25 rfl vq_95_6 lq_101 (by decide +kernel) <|
  wr_iload_n (q := 1) (by decide +kernel) rfl rfl <|
  wr_iald lq_101 sq_101 q1 (by decide +kernel) <|
  wr_if_ge (off := 11) (t := 26) (by decide +kernel) (by decide) k1 k2
theorem b_M_fault_18 {X : aX} {d : Nat} {post : aO} {vi : Nat → Nat → Int32} {vl : Nat → Nat → Int64} {x1 : Int32} (k1 : CallOk X d 0 0 k_M_found [.ref 95, .int (1 : Int32)] (mk vi vl) (fun r N' => wp X (d + 1) k_M_fault 0 0 23 [some (.ref 95), some (.int x1)] (pR r []) N' post)) : wp X (d + 1) k_M_fault 0 0 18 [some (.ref 95), some (.int x1)] [] (mk vi vl) post :=
  wr_aload_n (q := 0) (by decide +kernel) rfl rfl <|
  wr_iconst (n := 1) (v := (1 : Int32)) (by decide +kernel) (by decide) <|
  wr_invV (a := 95) (ci := 4) (mid2 := 119) (idx := 69) (b1 := 0) (b2 := 0) (c1 := 0) (c2 := 0) (as := [.int (1 : Int32)]) (st := []) pl_119 rfl (Nat.le_of_ble_eq_true rfl) rfl rfl lq_95 sq_95 (by decide) rfl lm_M_69 im_119 is_119 (by decide +kernel) k1
theorem b_M_fault_23 {X : aX} {d : Nat} {post : aO} {vi : Nat → Nat → Int32} {vl : Nat → Nat → Int64} {x1 y0 : Int32} (k1 : wp X (d + 1) k_M_fault 0 0 31 [some (.ref 95), some (.int x1)] [.int y0] (mk vi vl) post) : wp X (d + 1) k_M_fault 0 0 23 [some (.ref 95), some (.int x1)] [.int y0] (mk vi vl) post :=
  wr_goto (off := 8) (t := 31) (by decide +kernel) (by decide) k1
theorem b_M_fault_26 {X : aX} {d : Nat} {post : aO} {vi : Nat → Nat → Int32} {vl : Nat → Nat → Int64} {x1 : Int32} (k1 : CallOk X d 0 0 k_M_faultOf [.ref 95, .int x1] (mk vi vl) (fun r N' => wp X (d + 1) k_M_fault 0 0 31 [some (.ref 95), some (.int x1)] (pR r []) N' post)) : wp X (d + 1) k_M_fault 0 0 26 [some (.ref 95), some (.int x1)] [] (mk vi vl) post :=
  wr_aload_n (q := 0) (by decide +kernel) rfl rfl <|
  wr_iload_n (q := 1) (by decide +kernel) rfl rfl <|
  wr_invV (a := 95) (ci := 4) (mid2 := 132) (idx := 120) (b1 := 0) (b2 := 0) (c1 := 0) (c2 := 0) (as := [.int x1]) (st := []) pl_132 rfl (Nat.le_of_ble_eq_true rfl) rfl rfl lq_95 sq_95 (by decide) rfl lm_M_120 im_132 is_132 (by decide +kernel) k1
theorem b_M_fault_31 {X : aX} {d : Nat} {post : aO} {vi : Nat → Nat → Int32} {vl : Nat → Nat → Int64} {x1 y0 : Int32} (k1 : post (some (.int y0)) (mk vi vl)) : wp X (d + 1) k_M_fault 0 0 31 [some (.ref 95), some (.int x1)] [.int y0] (mk vi vl) post :=
  wr_ret (r := some (.int y0)) (Or.inr (Or.inl ⟨_, rfl, (by decide +kernel), (Or.inl rfl)⟩)) k1
theorem b_M_faultOf_0 {X : aX} {d : Nat} {post : aO} {vi : Nat → Nat → Int32} {vl : Nat → Nat → Int64} {x1 : Int32} (k1 : wp X (d + 1) k_M_faultOf 0 0 2 [some (.ref 95), some (.int x1), some (.int (0 : Int32))] [] (mk vi vl) post) : wp X (d + 1) k_M_faultOf 0 0 0 [some (.ref 95), some (.int x1), none] [] (mk vi vl) post :=
  wr_iconst (n := 0) (v := (0 : Int32)) (by decide +kernel) (by decide) <|
  wr_istore_n (q := 2) (by decide +kernel) rfl (by decide) <|
  k1
theorem b_M_faultOf_2 {X : aX} {d : Nat} {post : aO} {vi : Nat → Nat → Int32} {vl : Nat → Nat → Int64} {x1 x2 : Int32} (k1 : (36 : Int32) ≤ x2 → wp X (d + 1) k_M_faultOf 0 0 25 [some (.ref 95), some (.int x1), some (.int x2)] [] (mk vi vl) post) (k2 : ¬ (36 : Int32) ≤ x2 → wp X (d + 1) k_M_faultOf 0 0 8 [some (.ref 95), some (.int x1), some (.int x2)] [] (mk vi vl) post) : wp X (d + 1) k_M_faultOf 0 0 2 [some (.ref 95), some (.int x1), some (.int x2)] [] (mk vi vl) post :=
  wr_iload_n (q := 2) (by decide +kernel) rfl rfl <|
  wr_bipush (n := 36) (v := (36 : Int32)) (by decide +kernel) (by decide) <|
  wr_icmp_ge (off := 20) (t := 25) (by decide +kernel) (by decide) k1 k2
theorem b_M_faultOf_8 {X : aX} {d : Nat} {post : aO} {vi : Nat → Nat → Int32} {vl : Nat → Nat → Int64} {x1 x2 : Int32} (q1 : vp_in ((5904 : Int32) + x2) 5976) (k1 : ∀ w, w = up2 vi 96 ((5904 : Int32) + x2).toNatClampNeg (0 : Int32) → wp X (d + 1) k_M_faultOf 0 0 19 [some (.ref 95), some (.int x1), some (.int x2)] [] (mk w vl) post) : wp X (d + 1) k_M_faultOf 0 0 8 [some (.ref 95), some (.int x1), some (.int x2)] [] (mk vi vl) post :=
  wr_aload_n (q := 0) (by decide +kernel) rfl rfl <|
  wr_getR2 (b := 96) (ci := 4) (k0 := 0) (idx := 7) lq_95 sq_95 (by decide) (by decide) lf_M_7 rfl vq_95_0 lq_96 (by decide +kernel) <|
  wr_sipush (n := 5904) (v := (5904 : Int32)) (by decide +kernel) (by decide) <|
  wr_iload_n (q := 2) (by decide +kernel) rfl rfl <|
  wr_iadd (by decide +kernel) <|
  wr_iconst (n := 0) (v := (0 : Int32)) (by decide +kernel) (by decide) <|
  wr_iast lq_96 sq_96 q1 (by decide +kernel) <|
  k1 _ rfl
theorem b_M_faultOf_19 {X : aX} {d : Nat} {post : aO} {vi : Nat → Nat → Int32} {vl : Nat → Nat → Int64} {x1 x2 : Int32} (k1 : wp X (d + 1) k_M_faultOf 0 0 2 [some (.ref 95), some (.int x1), some (.int (x2 + (1 : Int32)))] [] (mk vi vl) post) : wp X (d + 1) k_M_faultOf 0 0 19 [some (.ref 95), some (.int x1), some (.int x2)] [] (mk vi vl) post :=
  wr_iinc (i := 2) (n := 1) (v := (1 : Int32)) (by decide +kernel) rfl (by decide) (by decide) <|
  wr_goto (off := -20) (t := 2) (by decide +kernel) (by decide) k1
theorem b_M_faultOf_25 {X : aX} {d : Nat} {post : aO} {vi : Nat → Nat → Int32} {vl : Nat → Nat → Int64} {x1 x2 : Int32} (k1 : ∀ w, w = up2 vi 95 13 (0 : Int32) → wp X (d + 1) k_M_faultOf 0 0 30 [some (.ref 95), some (.int x1), some (.int x2)] [] (mk w vl) post) : wp X (d + 1) k_M_faultOf 0 0 25 [some (.ref 95), some (.int x1), some (.int x2)] [] (mk vi vl) post :=
  wr_aload_n (q := 0) (by decide +kernel) rfl rfl <|
  wr_iconst (n := 0) (v := (0 : Int32)) (by decide +kernel) (by decide) <|
  wr_putI (ci := 4) (k0 := 13) (idx := 91) lq_95 sq_95 (by decide) (by decide) lf_M_91 rfl (by decide +kernel) <|
  k1 _ rfl
theorem b_M_faultOf_30 {X : aX} {d : Nat} {post : aO} {vi : Nat → Nat → Int32} {vl : Nat → Nat → Int64} {x1 x2 : Int32} (k1 : CallOk X d 0 0 k_M_blanks [.ref 95, .int x1] (mk vi vl) (fun r N' => wp X (d + 1) k_M_faultOf 0 0 35 [some (.ref 95), some (.int x1), some (.int x2)] (pR r []) N' post)) : wp X (d + 1) k_M_faultOf 0 0 30 [some (.ref 95), some (.int x1), some (.int x2)] [] (mk vi vl) post :=
  wr_aload_n (q := 0) (by decide +kernel) rfl rfl <|
  wr_iload_n (q := 1) (by decide +kernel) rfl rfl <|
  wr_invV (a := 95) (ci := 4) (mid2 := 133) (idx := 110) (b1 := 0) (b2 := 0) (c1 := 0) (c2 := 0) (as := [.int x1]) (st := []) pl_133 rfl (Nat.le_of_ble_eq_true rfl) rfl rfl lq_95 sq_95 (by decide) rfl lm_M_110 im_133 is_133 (by decide +kernel) k1
theorem b_M_faultOf_35 {X : aX} {d : Nat} {post : aO} {vi : Nat → Nat → Int32} {vl : Nat → Nat → Int64} {x1 x2 : Int32} (k1 : CallOk X d 0 0 k_M_takesYears [.ref 95, .int x1] (mk vi vl) (fun r N' => wp X (d + 1) k_M_faultOf 0 0 40 [some (.ref 95), some (.int x1), some (.int x2)] (pR r []) N' post)) : wp X (d + 1) k_M_faultOf 0 0 35 [some (.ref 95), some (.int x1), some (.int x2)] [] (mk vi vl) post :=
  wr_aload_n (q := 0) (by decide +kernel) rfl rfl <|
  wr_iload_n (q := 1) (by decide +kernel) rfl rfl <|
  wr_invV (a := 95) (ci := 4) (mid2 := 135) (idx := 114) (b1 := 0) (b2 := 0) (c1 := 0) (c2 := 0) (as := [.int x1]) (st := []) pl_135 rfl (Nat.le_of_ble_eq_true rfl) rfl rfl lq_95 sq_95 (by decide) rfl lm_M_114 im_135 is_135 (by decide +kernel) k1
theorem b_M_faultOf_40 {X : aX} {d : Nat} {post : aO} {vi : Nat → Nat → Int32} {vl : Nat → Nat → Int64} {x1 x2 y0 : Int32} (k1 : ¬ y0 = 0 → wp X (d + 1) k_M_faultOf 0 0 48 [some (.ref 95), some (.int x1), some (.int x2)] [] (mk vi vl) post) (k2 : y0 = 0 → wp X (d + 1) k_M_faultOf 0 0 43 [some (.ref 95), some (.int x1), some (.int x2)] [] (mk vi vl) post) : wp X (d + 1) k_M_faultOf 0 0 40 [some (.ref 95), some (.int x1), some (.int x2)] [.int y0] (mk vi vl) post :=
  wr_if_ne (off := 8) (t := 48) (by decide +kernel) (by decide) k1 k2
theorem b_M_faultOf_43 {X : aX} {d : Nat} {post : aO} {vi : Nat → Nat → Int32} {vl : Nat → Nat → Int64} {x1 x2 : Int32} (k1 : post (some (.int (vi 95 13))) (mk vi vl)) : wp X (d + 1) k_M_faultOf 0 0 43 [some (.ref 95), some (.int x1), some (.int x2)] [] (mk vi vl) post :=
  wr_aload_n (q := 0) (by decide +kernel) rfl rfl <|
  wr_getI (ci := 4) (k0 := 13) (idx := 91) lq_95 sq_95 (by decide) (by decide) lf_M_91 (Or.inl rfl) (by decide +kernel) <|
  wr_ret (r := some (.int (vi 95 13))) (Or.inr (Or.inl ⟨_, rfl, (by decide +kernel), (Or.inl rfl)⟩)) k1
theorem b_M_faultOf_48 {X : aX} {d : Nat} {post : aO} {vi : Nat → Nat → Int32} {vl : Nat → Nat → Int64} {x1 x2 : Int32} (k1 : CallOk X d 0 0 k_M_blanks [.ref 95, .int x1] (mk vi vl) (fun r N' => wp X (d + 1) k_M_faultOf 0 0 53 [some (.ref 95), some (.int x1), some (.int x2)] (pR r []) N' post)) : wp X (d + 1) k_M_faultOf 0 0 48 [some (.ref 95), some (.int x1), some (.int x2)] [] (mk vi vl) post :=
  wr_aload_n (q := 0) (by decide +kernel) rfl rfl <|
  wr_iload_n (q := 1) (by decide +kernel) rfl rfl <|
  wr_invV (a := 95) (ci := 4) (mid2 := 133) (idx := 110) (b1 := 0) (b2 := 0) (c1 := 0) (c2 := 0) (as := [.int x1]) (st := []) pl_133 rfl (Nat.le_of_ble_eq_true rfl) rfl rfl lq_95 sq_95 (by decide) rfl lm_M_110 im_133 is_133 (by decide +kernel) k1
theorem b_M_faultOf_53 {X : aX} {d : Nat} {post : aO} {vi : Nat → Nat → Int32} {vl : Nat → Nat → Int64} {x1 x2 : Int32} (q1 : vp_in x1 4) (k1 : (vi 101 x1.toNatClampNeg) ≤ (vi 95 13) → wp X (d + 1) k_M_faultOf 0 0 87 [some (.ref 95), some (.int x1), some (.int x2)] [] (mk vi vl) post) (k2 : ¬ (vi 101 x1.toNatClampNeg) ≤ (vi 95 13) → wp X (d + 1) k_M_faultOf 0 0 66 [some (.ref 95), some (.int x1), some (.int x2)] [] (mk vi vl) post) : wp X (d + 1) k_M_faultOf 0 0 53 [some (.ref 95), some (.int x1), some (.int x2)] [] (mk vi vl) post :=
  wr_aload_n (q := 0) (by decide +kernel) rfl rfl <|
  wr_getI (ci := 4) (k0 := 13) (idx := 91) lq_95 sq_95 (by decide) (by decide) lf_M_91 (Or.inl rfl) (by decide +kernel) <|
  wr_aload_n (q := 0) (by decide +kernel) rfl rfl <|
  wr_getR2 (b := 101) (ci := 4) (k0 := 6) (idx := 25) lq_95 sq_95 (by decide) (by decide) lf_M_25 rfl vq_95_6 lq_101 (by decide +kernel) <|
  wr_iload_n (q := 1) (by decide +kernel) rfl rfl <|
  wr_iald lq_101 sq_101 q1 (by decide +kernel) <|
  wr_icmp_ge (off := 24) (t := 87) (by decide +kernel) (by decide) k1 k2
theorem b_M_faultOf_66 {X : aX} {d : Nat} {post : aO} {vi : Nat → Nat → Int32} {vl : Nat → Nat → Int64} {x1 x2 : Int32} (k1 : CallOk X d 0 0 k_M_takesLaw [.ref 95, .int x1] (mk vi vl) (fun r N' => wp X (d + 1) k_M_faultOf 0 0 71 [some (.ref 95), some (.int x1), some (.int x2)] (pR r []) N' post)) : wp X (d + 1) k_M_faultOf 0 0 66 [some (.ref 95), some (.int x1), some (.int x2)] [] (mk vi vl) post :=
  wr_aload_n (q := 0) (by decide +kernel) rfl rfl <|
  wr_iload_n (q := 1) (by decide +kernel) rfl rfl <|
  wr_invV (a := 95) (ci := 4) (mid2 := 138) (idx := 117) (b1 := 0) (b2 := 0) (c1 := 0) (c2 := 0) (as := [.int x1]) (st := []) pl_138 rfl (Nat.le_of_ble_eq_true rfl) rfl rfl lq_95 sq_95 (by decide) rfl lm_M_117 im_138 is_138 (by decide +kernel) k1
theorem b_M_faultOf_71 {X : aX} {d : Nat} {post : aO} {vi : Nat → Nat → Int32} {vl : Nat → Nat → Int64} {x1 x2 y0 : Int32} (k1 : ¬ y0 = 0 → wp X (d + 1) k_M_faultOf 0 0 79 [some (.ref 95), some (.int x1), some (.int x2)] [] (mk vi vl) post) (k2 : y0 = 0 → wp X (d + 1) k_M_faultOf 0 0 74 [some (.ref 95), some (.int x1), some (.int x2)] [] (mk vi vl) post) : wp X (d + 1) k_M_faultOf 0 0 71 [some (.ref 95), some (.int x1), some (.int x2)] [.int y0] (mk vi vl) post :=
  wr_if_ne (off := 8) (t := 79) (by decide +kernel) (by decide) k1 k2
theorem b_M_faultOf_74 {X : aX} {d : Nat} {post : aO} {vi : Nat → Nat → Int32} {vl : Nat → Nat → Int64} {x1 x2 : Int32} (k1 : post (some (.int (vi 95 13))) (mk vi vl)) : wp X (d + 1) k_M_faultOf 0 0 74 [some (.ref 95), some (.int x1), some (.int x2)] [] (mk vi vl) post :=
  wr_aload_n (q := 0) (by decide +kernel) rfl rfl <|
  wr_getI (ci := 4) (k0 := 13) (idx := 91) lq_95 sq_95 (by decide) (by decide) lf_M_91 (Or.inl rfl) (by decide +kernel) <|
  wr_ret (r := some (.int (vi 95 13))) (Or.inr (Or.inl ⟨_, rfl, (by decide +kernel), (Or.inl rfl)⟩)) k1
theorem b_M_faultOf_79 {X : aX} {d : Nat} {post : aO} {vi : Nat → Nat → Int32} {vl : Nat → Nat → Int64} {x1 x2 : Int32} (k1 : CallOk X d 0 0 k_M_blanks [.ref 95, .int x1] (mk vi vl) (fun r N' => wp X (d + 1) k_M_faultOf 0 0 84 [some (.ref 95), some (.int x1), some (.int x2)] (pR r []) N' post)) : wp X (d + 1) k_M_faultOf 0 0 79 [some (.ref 95), some (.int x1), some (.int x2)] [] (mk vi vl) post :=
  wr_aload_n (q := 0) (by decide +kernel) rfl rfl <|
  wr_iload_n (q := 1) (by decide +kernel) rfl rfl <|
  wr_invV (a := 95) (ci := 4) (mid2 := 133) (idx := 110) (b1 := 0) (b2 := 0) (c1 := 0) (c2 := 0) (as := [.int x1]) (st := []) pl_133 rfl (Nat.le_of_ble_eq_true rfl) rfl rfl lq_95 sq_95 (by decide) rfl lm_M_110 im_133 is_133 (by decide +kernel) k1
theorem b_M_faultOf_84 {X : aX} {d : Nat} {post : aO} {vi : Nat → Nat → Int32} {vl : Nat → Nat → Int64} {x1 x2 : Int32} (k1 : wp X (d + 1) k_M_faultOf 0 0 53 [some (.ref 95), some (.int x1), some (.int x2)] [] (mk vi vl) post) : wp X (d + 1) k_M_faultOf 0 0 84 [some (.ref 95), some (.int x1), some (.int x2)] [] (mk vi vl) post :=
  wr_goto (off := -31) (t := 53) (by decide +kernel) (by decide) k1
theorem b_M_faultOf_87 {X : aX} {d : Nat} {post : aO} {vi : Nat → Nat → Int32} {vl : Nat → Nat → Int64} {x1 x2 : Int32} (k1 : post (some (.int (-9 : Int32))) (mk vi vl)) : wp X (d + 1) k_M_faultOf 0 0 87 [some (.ref 95), some (.int x1), some (.int x2)] [] (mk vi vl) post :=
  wr_bipush (n := -9) (v := (-9 : Int32)) (by decide +kernel) (by decide) <|
  wr_ret (r := some (.int (-9 : Int32))) (Or.inr (Or.inl ⟨_, rfl, (by decide +kernel), (Or.inl rfl)⟩)) k1
theorem b_M_blanks_0 {X : aX} {d : Nat} {post : aO} {vi : Nat → Nat → Int32} {vl : Nat → Nat → Int64} {x1 : Int32} (k1 : CallOk X d 0 0 k_M_byteAt [.ref 95, .int x1, .int (vi 95 13)] (mk vi vl) (fun r N' => wp X (d + 1) k_M_blanks 0 0 9 [some (.ref 95), some (.int x1)] (pR r []) N' post)) : wp X (d + 1) k_M_blanks 0 0 0 [some (.ref 95), some (.int x1)] [] (mk vi vl) post :=
  wr_aload_n (q := 0) (by decide +kernel) rfl rfl <|
  wr_iload_n (q := 1) (by decide +kernel) rfl rfl <|
  wr_aload_n (q := 0) (by decide +kernel) rfl rfl <|
  wr_getI (ci := 4) (k0 := 13) (idx := 91) lq_95 sq_95 (by decide) (by decide) lf_M_91 (Or.inl rfl) (by decide +kernel) <|
  wr_invV (a := 95) (ci := 4) (mid2 := 134) (idx := 94) (b1 := 0) (b2 := 0) (c1 := 0) (c2 := 0) (as := [.int x1, .int (vi 95 13)]) (st := []) pl_134 rfl (Nat.le_of_ble_eq_true rfl) rfl rfl lq_95 sq_95 (by decide) rfl lm_M_94 im_134 is_134 (by decide +kernel) k1
theorem b_M_blanks_9 {X : aX} {d : Nat} {post : aO} {vi : Nat → Nat → Int32} {vl : Nat → Nat → Int64} {x1 y0 : Int32} (k1 : ¬ y0 = (32 : Int32) → wp X (d + 1) k_M_blanks 0 0 27 [some (.ref 95), some (.int x1)] [] (mk vi vl) post) (k2 : y0 = (32 : Int32) → wp X (d + 1) k_M_blanks 0 0 14 [some (.ref 95), some (.int x1)] [] (mk vi vl) post) : wp X (d + 1) k_M_blanks 0 0 9 [some (.ref 95), some (.int x1)] [.int y0] (mk vi vl) post :=
  wr_bipush (n := 32) (v := (32 : Int32)) (by decide +kernel) (by decide) <|
  wr_icmp_ne (off := 16) (t := 27) (by decide +kernel) (by decide) k1 k2
theorem b_M_blanks_14 {X : aX} {d : Nat} {post : aO} {vi : Nat → Nat → Int32} {vl : Nat → Nat → Int64} {x1 : Int32} (k1 : ∀ w, w = up2 vi 95 13 ((vi 95 13) + (1 : Int32)) → wp X (d + 1) k_M_blanks 0 0 24 [some (.ref 95), some (.int x1)] [] (mk w vl) post) : wp X (d + 1) k_M_blanks 0 0 14 [some (.ref 95), some (.int x1)] [] (mk vi vl) post :=
  wr_aload_n (q := 0) (by decide +kernel) rfl rfl <|
  wr_dup (by decide +kernel) rfl <|
  wr_getI (ci := 4) (k0 := 13) (idx := 91) lq_95 sq_95 (by decide) (by decide) lf_M_91 (Or.inl rfl) (by decide +kernel) <|
  wr_iconst (n := 1) (v := (1 : Int32)) (by decide +kernel) (by decide) <|
  wr_iadd (by decide +kernel) <|
  wr_putI (ci := 4) (k0 := 13) (idx := 91) lq_95 sq_95 (by decide) (by decide) lf_M_91 rfl (by decide +kernel) <|
  k1 _ rfl
theorem b_M_blanks_24 {X : aX} {d : Nat} {post : aO} {vi : Nat → Nat → Int32} {vl : Nat → Nat → Int64} {x1 : Int32} (k1 : wp X (d + 1) k_M_blanks 0 0 0 [some (.ref 95), some (.int x1)] [] (mk vi vl) post) : wp X (d + 1) k_M_blanks 0 0 24 [some (.ref 95), some (.int x1)] [] (mk vi vl) post :=
  wr_goto (off := -24) (t := 0) (by decide +kernel) (by decide) k1
theorem b_M_blanks_27 {X : aX} {d : Nat} {post : aO} {vi : Nat → Nat → Int32} {vl : Nat → Nat → Int64} {x1 : Int32} (k1 : post none (mk vi vl)) : wp X (d + 1) k_M_blanks 0 0 27 [some (.ref 95), some (.int x1)] [] (mk vi vl) post :=
  wr_ret (r := none) (Or.inl ⟨rfl, (by decide +kernel), rfl⟩) k1
theorem b_M_byteAt_0 {X : aX} {d : Nat} {post : aO} {vi : Nat → Nat → Int32} {vl : Nat → Nat → Int64} {x1 x2 : Int32} (q1 : vp_in x1 4) (k1 : (vi 101 x1.toNatClampNeg) ≤ x2 → wp X (d + 1) k_M_byteAt 0 0 24 [some (.ref 95), some (.int x1), some (.int x2)] [] (mk vi vl) post) (k2 : ¬ (vi 101 x1.toNatClampNeg) ≤ x2 → wp X (d + 1) k_M_byteAt 0 0 10 [some (.ref 95), some (.int x1), some (.int x2)] [] (mk vi vl) post) : wp X (d + 1) k_M_byteAt 0 0 0 [some (.ref 95), some (.int x1), some (.int x2)] [] (mk vi vl) post :=
  wr_iload_n (q := 2) (by decide +kernel) rfl rfl <|
  wr_aload_n (q := 0) (by decide +kernel) rfl rfl <|
  wr_getR2 (b := 101) (ci := 4) (k0 := 6) (idx := 25) lq_95 sq_95 (by decide) (by decide) lf_M_25 rfl vq_95_6 lq_101 (by decide +kernel) <|
  wr_iload_n (q := 1) (by decide +kernel) rfl rfl <|
  wr_iald lq_101 sq_101 q1 (by decide +kernel) <|
  wr_icmp_ge (off := 17) (t := 24) (by decide +kernel) (by decide) k1 k2
theorem b_M_byteAt_10 {X : aX} {d : Nat} {post : aO} {vi : Nat → Nat → Int32} {vl : Nat → Nat → Int64} {x1 x2 : Int32} (q1 : vp_in (((60 : Int32) * x1) + x2) 240) (k1 : wp X (d + 1) k_M_byteAt 0 0 27 [some (.ref 95), some (.int x1), some (.int x2)] [.int (vi 100 (((60 : Int32) * x1) + x2).toNatClampNeg)] (mk vi vl) post) : wp X (d + 1) k_M_byteAt 0 0 10 [some (.ref 95), some (.int x1), some (.int x2)] [] (mk vi vl) post :=
  wr_aload_n (q := 0) (by decide +kernel) rfl rfl <|
  wr_getR2 (b := 100) (ci := 4) (k0 := 5) (idx := 22) lq_95 sq_95 (by decide) (by decide) lf_M_22 rfl vq_95_5 lq_100 (by decide +kernel) <|
  wr_bipush (n := 60) (v := (60 : Int32)) (by decide +kernel) (by decide) <|
  wr_iload_n (q := 1) (by decide +kernel) rfl rfl <|
  wr_imul (by decide +kernel) <|
  wr_iload_n (q := 2) (by decide +kernel) rfl rfl <|
  wr_iadd (by decide +kernel) <|
  wr_iald lq_100 sq_100 q1 (by decide +kernel) <|
  wr_goto (off := 6) (t := 27) (by decide +kernel) (by decide) k1
theorem b_M_byteAt_24 {X : aX} {d : Nat} {post : aO} {vi : Nat → Nat → Int32} {vl : Nat → Nat → Int64} {x1 x2 : Int32} (k1 : wp X (d + 1) k_M_byteAt 0 0 27 [some (.ref 95), some (.int x1), some (.int x2)] [.int (-1000 : Int32)] (mk vi vl) post) : wp X (d + 1) k_M_byteAt 0 0 24 [some (.ref 95), some (.int x1), some (.int x2)] [] (mk vi vl) post :=
  wr_sipush (n := -1000) (v := (-1000 : Int32)) (by decide +kernel) (by decide) <|
  k1
theorem b_M_byteAt_27 {X : aX} {d : Nat} {post : aO} {vi : Nat → Nat → Int32} {vl : Nat → Nat → Int64} {x1 x2 y0 : Int32} (k1 : post (some (.int y0)) (mk vi vl)) : wp X (d + 1) k_M_byteAt 0 0 27 [some (.ref 95), some (.int x1), some (.int x2)] [.int y0] (mk vi vl) post :=
  wr_ret (r := some (.int y0)) (Or.inr (Or.inl ⟨_, rfl, (by decide +kernel), (Or.inl rfl)⟩)) k1
theorem b_M_takesYears_0 {X : aX} {d : Nat} {post : aO} {vi : Nat → Nat → Int32} {vl : Nat → Nat → Int64} {x1 : Int32} (k1 : CallOk X d 0 0 k_M_byteAt [.ref 95, .int x1, .int (vi 95 13)] (mk vi vl) (fun r N' => wp X (d + 1) k_M_takesYears 0 0 9 [some (.ref 95), some (.int x1), none, none] (pR r []) N' post)) : wp X (d + 1) k_M_takesYears 0 0 0 [some (.ref 95), some (.int x1), none, none] [] (mk vi vl) post :=
  wr_aload_n (q := 0) (by decide +kernel) rfl rfl <|
  wr_iload_n (q := 1) (by decide +kernel) rfl rfl <|
  wr_aload_n (q := 0) (by decide +kernel) rfl rfl <|
  wr_getI (ci := 4) (k0 := 13) (idx := 91) lq_95 sq_95 (by decide) (by decide) lf_M_91 (Or.inl rfl) (by decide +kernel) <|
  wr_invV (a := 95) (ci := 4) (mid2 := 134) (idx := 94) (b1 := 0) (b2 := 0) (c1 := 0) (c2 := 0) (as := [.int x1, .int (vi 95 13)]) (st := []) pl_134 rfl (Nat.le_of_ble_eq_true rfl) rfl rfl lq_95 sq_95 (by decide) rfl lm_M_94 im_134 is_134 (by decide +kernel) k1
theorem b_M_takesYears_9 {X : aX} {d : Nat} {post : aO} {vi : Nat → Nat → Int32} {vl : Nat → Nat → Int64} {x1 y0 : Int32} {o2 o3 : Option Value} (k1 : y0 = (121 : Int32) → wp X (d + 1) k_M_takesYears 0 0 16 [some (.ref 95), some (.int x1), o2, o3] [] (mk vi vl) post) (k2 : ¬ y0 = (121 : Int32) → wp X (d + 1) k_M_takesYears 0 0 14 [some (.ref 95), some (.int x1), o2, o3] [] (mk vi vl) post) : wp X (d + 1) k_M_takesYears 0 0 9 [some (.ref 95), some (.int x1), o2, o3] [.int y0] (mk vi vl) post :=
  wr_bipush (n := 121) (v := (121 : Int32)) (by decide +kernel) (by decide) <|
  wr_icmp_eq (off := 5) (t := 16) (by decide +kernel) (by decide) k1 k2
theorem b_M_takesYears_14 {X : aX} {d : Nat} {post : aO} {vi : Nat → Nat → Int32} {vl : Nat → Nat → Int64} {x1 : Int32} {o2 o3 : Option Value} (k1 : post (some (.int (0 : Int32))) (mk vi vl)) : wp X (d + 1) k_M_takesYears 0 0 14 [some (.ref 95), some (.int x1), o2, o3] [] (mk vi vl) post :=
  wr_iconst (n := 0) (v := (0 : Int32)) (by decide +kernel) (by decide) <|
  wr_ret (r := some (.int (0 : Int32))) (Or.inr (Or.inl ⟨_, rfl, (by decide +kernel), (Or.inr ⟨rfl, (by decide)⟩)⟩)) k1
theorem b_M_takesYears_16 {X : aX} {d : Nat} {post : aO} {vi : Nat → Nat → Int32} {vl : Nat → Nat → Int64} {x1 : Int32} {o2 o3 : Option Value} (k1 : ∀ w, w = up2 vi 95 13 ((vi 95 13) + (1 : Int32)) → wp X (d + 1) k_M_takesYears 0 0 26 [some (.ref 95), some (.int x1), o2, o3] [] (mk w vl) post) : wp X (d + 1) k_M_takesYears 0 0 16 [some (.ref 95), some (.int x1), o2, o3] [] (mk vi vl) post :=
  wr_aload_n (q := 0) (by decide +kernel) rfl rfl <|
  wr_dup (by decide +kernel) rfl <|
  wr_getI (ci := 4) (k0 := 13) (idx := 91) lq_95 sq_95 (by decide) (by decide) lf_M_91 (Or.inl rfl) (by decide +kernel) <|
  wr_iconst (n := 1) (v := (1 : Int32)) (by decide +kernel) (by decide) <|
  wr_iadd (by decide +kernel) <|
  wr_putI (ci := 4) (k0 := 13) (idx := 91) lq_95 sq_95 (by decide) (by decide) lf_M_91 rfl (by decide +kernel) <|
  k1 _ rfl
theorem b_M_takesYears_26 {X : aX} {d : Nat} {post : aO} {vi : Nat → Nat → Int32} {vl : Nat → Nat → Int64} {x1 : Int32} {o2 o3 : Option Value} (k1 : wp X (d + 1) k_M_takesYears 0 0 28 [some (.ref 95), some (.int x1), some (.int (0 : Int32)), o3] [] (mk vi vl) post) : wp X (d + 1) k_M_takesYears 0 0 26 [some (.ref 95), some (.int x1), o2, o3] [] (mk vi vl) post :=
  wr_iconst (n := 0) (v := (0 : Int32)) (by decide +kernel) (by decide) <|
  wr_istore_n (q := 2) (by decide +kernel) rfl (by decide) <|
  k1
theorem b_M_takesYears_28 {X : aX} {d : Nat} {post : aO} {vi : Nat → Nat → Int32} {vl : Nat → Nat → Int64} {x1 x2 : Int32} {o3 : Option Value} (k1 : (5 : Int32) ≤ x2 → wp X (d + 1) k_M_takesYears 0 0 113 [some (.ref 95), some (.int x1), some (.int x2), o3] [] (mk vi vl) post) (k2 : ¬ (5 : Int32) ≤ x2 → wp X (d + 1) k_M_takesYears 0 0 33 [some (.ref 95), some (.int x1), some (.int x2), o3] [] (mk vi vl) post) : wp X (d + 1) k_M_takesYears 0 0 28 [some (.ref 95), some (.int x1), some (.int x2), o3] [] (mk vi vl) post :=
  wr_iload_n (q := 2) (by decide +kernel) rfl rfl <|
  wr_iconst (n := 5) (v := (5 : Int32)) (by decide +kernel) (by decide) <|
  wr_icmp_ge (off := 83) (t := 113) (by decide +kernel) (by decide) k1 k2
theorem b_M_takesYears_33 {X : aX} {d : Nat} {post : aO} {vi : Nat → Nat → Int32} {vl : Nat → Nat → Int64} {x1 x2 : Int32} {o3 : Option Value} (k1 : CallOk X d 0 0 k_M_isSign [.ref 95, .int x1] (mk vi vl) (fun r N' => wp X (d + 1) k_M_takesYears 0 0 38 [some (.ref 95), some (.int x1), some (.int x2), o3] (pR r []) N' post)) : wp X (d + 1) k_M_takesYears 0 0 33 [some (.ref 95), some (.int x1), some (.int x2), o3] [] (mk vi vl) post :=
  wr_aload_n (q := 0) (by decide +kernel) rfl rfl <|
  wr_iload_n (q := 1) (by decide +kernel) rfl rfl <|
  wr_invV (a := 95) (ci := 4) (mid2 := 136) (idx := 104) (b1 := 0) (b2 := 0) (c1 := 0) (c2 := 0) (as := [.int x1]) (st := []) pl_136 rfl (Nat.le_of_ble_eq_true rfl) rfl rfl lq_95 sq_95 (by decide) rfl lm_M_104 im_136 is_136 (by decide +kernel) k1
theorem b_M_takesYears_38 {X : aX} {d : Nat} {post : aO} {vi : Nat → Nat → Int32} {vl : Nat → Nat → Int64} {x1 x2 y0 : Int32} {o3 : Option Value} (k1 : y0 = 0 → wp X (d + 1) k_M_takesYears 0 0 113 [some (.ref 95), some (.int x1), some (.int x2), o3] [] (mk vi vl) post) (k2 : ¬ y0 = 0 → wp X (d + 1) k_M_takesYears 0 0 41 [some (.ref 95), some (.int x1), some (.int x2), o3] [] (mk vi vl) post) : wp X (d + 1) k_M_takesYears 0 0 38 [some (.ref 95), some (.int x1), some (.int x2), o3] [.int y0] (mk vi vl) post :=
  wr_if_eq (off := 75) (t := 113) (by decide +kernel) (by decide) k1 k2
theorem b_M_takesYears_41 {X : aX} {d : Nat} {post : aO} {vi : Nat → Nat → Int32} {vl : Nat → Nat → Int64} {x1 x2 : Int32} {o3 : Option Value} (k1 : CallOk X d 0 0 k_M_byteAt [.ref 95, .int x1, .int (vi 95 13)] (mk vi vl) (fun r N' => wp X (d + 1) k_M_takesYears 0 0 50 [some (.ref 95), some (.int x1), some (.int x2), o3] (pR r []) N' post)) : wp X (d + 1) k_M_takesYears 0 0 41 [some (.ref 95), some (.int x1), some (.int x2), o3] [] (mk vi vl) post :=
  wr_aload_n (q := 0) (by decide +kernel) rfl rfl <|
  wr_iload_n (q := 1) (by decide +kernel) rfl rfl <|
  wr_aload_n (q := 0) (by decide +kernel) rfl rfl <|
  wr_getI (ci := 4) (k0 := 13) (idx := 91) lq_95 sq_95 (by decide) (by decide) lf_M_91 (Or.inl rfl) (by decide +kernel) <|
  wr_invV (a := 95) (ci := 4) (mid2 := 134) (idx := 94) (b1 := 0) (b2 := 0) (c1 := 0) (c2 := 0) (as := [.int x1, .int (vi 95 13)]) (st := []) pl_134 rfl (Nat.le_of_ble_eq_true rfl) rfl rfl lq_95 sq_95 (by decide) rfl lm_M_94 im_134 is_134 (by decide +kernel) k1
theorem b_M_takesYears_50 {X : aX} {d : Nat} {post : aO} {vi : Nat → Nat → Int32} {vl : Nat → Nat → Int64} {x1 x2 y0 : Int32} {o3 : Option Value} (k1 : ¬ y0 = (45 : Int32) → wp X (d + 1) k_M_takesYears 0 0 70 [some (.ref 95), some (.int x1), some (.int x2), some (.int y0)] [.int ((5906 : Int32) + x2), .ref 96] (mk vi vl) post) (k2 : y0 = (45 : Int32) → wp X (d + 1) k_M_takesYears 0 0 66 [some (.ref 95), some (.int x1), some (.int x2), some (.int y0)] [.int ((5906 : Int32) + x2), .ref 96] (mk vi vl) post) : wp X (d + 1) k_M_takesYears 0 0 50 [some (.ref 95), some (.int x1), some (.int x2), o3] [.int y0] (mk vi vl) post :=
  wr_istore_n (q := 3) (by decide +kernel) rfl (by decide) <|
  wr_aload_n (q := 0) (by decide +kernel) rfl rfl <|
  wr_getR2 (b := 96) (ci := 4) (k0 := 0) (idx := 7) lq_95 sq_95 (by decide) (by decide) lf_M_7 rfl vq_95_0 lq_96 (by decide +kernel) <|
  wr_sipush (n := 5906) (v := (5906 : Int32)) (by decide +kernel) (by decide) <|
  wr_iload_n (q := 2) (by decide +kernel) rfl rfl <|
  wr_iadd (by decide +kernel) <|
  wr_iload_n (q := 3) (by decide +kernel) rfl rfl <|
  wr_bipush (n := 45) (v := (45 : Int32)) (by decide +kernel) (by decide) <|
  wr_icmp_ne (off := 7) (t := 70) (by decide +kernel) (by decide) k1 k2
theorem b_M_takesYears_66 {X : aX} {d : Nat} {post : aO} {vi : Nat → Nat → Int32} {vl : Nat → Nat → Int64} {x1 x2 x3 y1 : Int32} (k1 : wp X (d + 1) k_M_takesYears 0 0 71 [some (.ref 95), some (.int x1), some (.int x2), some (.int x3)] [.int (0 : Int32), .int y1, .ref 96] (mk vi vl) post) : wp X (d + 1) k_M_takesYears 0 0 66 [some (.ref 95), some (.int x1), some (.int x2), some (.int x3)] [.int y1, .ref 96] (mk vi vl) post :=
  wr_iconst (n := 0) (v := (0 : Int32)) (by decide +kernel) (by decide) <|
  wr_goto (off := 4) (t := 71) (by decide +kernel) (by decide) k1
theorem b_M_takesYears_70 {X : aX} {d : Nat} {post : aO} {vi : Nat → Nat → Int32} {vl : Nat → Nat → Int64} {x1 x2 x3 y1 : Int32} (k1 : wp X (d + 1) k_M_takesYears 0 0 71 [some (.ref 95), some (.int x1), some (.int x2), some (.int x3)] [.int (1 : Int32), .int y1, .ref 96] (mk vi vl) post) : wp X (d + 1) k_M_takesYears 0 0 70 [some (.ref 95), some (.int x1), some (.int x2), some (.int x3)] [.int y1, .ref 96] (mk vi vl) post :=
  wr_iconst (n := 1) (v := (1 : Int32)) (by decide +kernel) (by decide) <|
  k1
theorem b_M_takesYears_71 {X : aX} {d : Nat} {post : aO} {vi : Nat → Nat → Int32} {vl : Nat → Nat → Int64} {x1 x2 x3 y1 y2 : Int32} (q1 : vp_in y1 5976) (k1 : ∀ w, w = up2 vi 96 y1.toNatClampNeg y2 → wp X (d + 1) k_M_takesYears 0 0 72 [some (.ref 95), some (.int x1), some (.int x2), some (.int x3)] [] (mk w vl) post) : wp X (d + 1) k_M_takesYears 0 0 71 [some (.ref 95), some (.int x1), some (.int x2), some (.int x3)] [.int y2, .int y1, .ref 96] (mk vi vl) post :=
  wr_iast lq_96 sq_96 q1 (by decide +kernel) <|
  k1 _ rfl
theorem b_M_takesYears_72 {X : aX} {d : Nat} {post : aO} {vi : Nat → Nat → Int32} {vl : Nat → Nat → Int64} {x1 x2 x3 : Int32} (k1 : ¬ x3 = (45 : Int32) → wp X (d + 1) k_M_takesYears 0 0 92 [some (.ref 95), some (.int x1), some (.int x2), some (.int x3)] [.int ((5911 : Int32) + x2), .ref 96] (mk vi vl) post) (k2 : x3 = (45 : Int32) → wp X (d + 1) k_M_takesYears 0 0 87 [some (.ref 95), some (.int x1), some (.int x2), some (.int x3)] [.int ((5911 : Int32) + x2), .ref 96] (mk vi vl) post) : wp X (d + 1) k_M_takesYears 0 0 72 [some (.ref 95), some (.int x1), some (.int x2), some (.int x3)] [] (mk vi vl) post :=
  wr_aload_n (q := 0) (by decide +kernel) rfl rfl <|
  wr_getR2 (b := 96) (ci := 4) (k0 := 0) (idx := 7) lq_95 sq_95 (by decide) (by decide) lf_M_7 rfl vq_95_0 lq_96 (by decide +kernel) <|
  wr_sipush (n := 5911) (v := (5911 : Int32)) (by decide +kernel) (by decide) <|
  wr_iload_n (q := 2) (by decide +kernel) rfl rfl <|
  wr_iadd (by decide +kernel) <|
  wr_iload_n (q := 3) (by decide +kernel) rfl rfl <|
  wr_bipush (n := 45) (v := (45 : Int32)) (by decide +kernel) (by decide) <|
  wr_icmp_ne (off := 8) (t := 92) (by decide +kernel) (by decide) k1 k2
theorem b_M_takesYears_87 {X : aX} {d : Nat} {post : aO} {vi : Nat → Nat → Int32} {vl : Nat → Nat → Int64} {x1 x2 x3 y1 : Int32} (k1 : wp X (d + 1) k_M_takesYears 0 0 96 [some (.ref 95), some (.int x1), some (.int x2), some (.int x3)] [.int (-9 : Int32), .int y1, .ref 96] (mk vi vl) post) : wp X (d + 1) k_M_takesYears 0 0 87 [some (.ref 95), some (.int x1), some (.int x2), some (.int x3)] [.int y1, .ref 96] (mk vi vl) post :=
  wr_bipush (n := -9) (v := (-9 : Int32)) (by decide +kernel) (by decide) <|
  wr_goto (off := 7) (t := 96) (by decide +kernel) (by decide) k1
theorem b_M_takesYears_92 {X : aX} {d : Nat} {post : aO} {vi : Nat → Nat → Int32} {vl : Nat → Nat → Int64} {x1 x2 x3 y1 : Int32} (k1 : wp X (d + 1) k_M_takesYears 0 0 96 [some (.ref 95), some (.int x1), some (.int x2), some (.int x3)] [.int (x3 - (48 : Int32)), .int y1, .ref 96] (mk vi vl) post) : wp X (d + 1) k_M_takesYears 0 0 92 [some (.ref 95), some (.int x1), some (.int x2), some (.int x3)] [.int y1, .ref 96] (mk vi vl) post :=
  wr_iload_n (q := 3) (by decide +kernel) rfl rfl <|
  wr_bipush (n := 48) (v := (48 : Int32)) (by decide +kernel) (by decide) <|
  wr_isub (by decide +kernel) <|
  k1
theorem b_M_takesYears_96 {X : aX} {d : Nat} {post : aO} {vi : Nat → Nat → Int32} {vl : Nat → Nat → Int64} {x1 x2 x3 y1 y2 : Int32} (q1 : vp_in y1 5976) (k1 : ∀ w, w = up2 vi 96 y1.toNatClampNeg y2 → wp X (d + 1) k_M_takesYears 0 0 97 [some (.ref 95), some (.int x1), some (.int x2), some (.int x3)] [] (mk w vl) post) : wp X (d + 1) k_M_takesYears 0 0 96 [some (.ref 95), some (.int x1), some (.int x2), some (.int x3)] [.int y2, .int y1, .ref 96] (mk vi vl) post :=
  wr_iast lq_96 sq_96 q1 (by decide +kernel) <|
  k1 _ rfl
theorem b_M_takesYears_97 {X : aX} {d : Nat} {post : aO} {vi : Nat → Nat → Int32} {vl : Nat → Nat → Int64} {x1 x2 x3 : Int32} (k1 : ∀ w, w = up2 vi 95 13 ((vi 95 13) + (1 : Int32)) → wp X (d + 1) k_M_takesYears 0 0 110 [some (.ref 95), some (.int x1), some (.int (x2 + (1 : Int32))), some (.int x3)] [] (mk w vl) post) : wp X (d + 1) k_M_takesYears 0 0 97 [some (.ref 95), some (.int x1), some (.int x2), some (.int x3)] [] (mk vi vl) post :=
  wr_iinc (i := 2) (n := 1) (v := (1 : Int32)) (by decide +kernel) rfl (by decide) (by decide) <|
  wr_aload_n (q := 0) (by decide +kernel) rfl rfl <|
  wr_dup (by decide +kernel) rfl <|
  wr_getI (ci := 4) (k0 := 13) (idx := 91) lq_95 sq_95 (by decide) (by decide) lf_M_91 (Or.inl rfl) (by decide +kernel) <|
  wr_iconst (n := 1) (v := (1 : Int32)) (by decide +kernel) (by decide) <|
  wr_iadd (by decide +kernel) <|
  wr_putI (ci := 4) (k0 := 13) (idx := 91) lq_95 sq_95 (by decide) (by decide) lf_M_91 rfl (by decide +kernel) <|
  k1 _ rfl
theorem b_M_takesYears_110 {X : aX} {d : Nat} {post : aO} {vi : Nat → Nat → Int32} {vl : Nat → Nat → Int64} {x1 x2 x3 : Int32} (k1 : wp X (d + 1) k_M_takesYears 0 0 28 [some (.ref 95), some (.int x1), some (.int x2), some (.int x3)] [] (mk vi vl) post) : wp X (d + 1) k_M_takesYears 0 0 110 [some (.ref 95), some (.int x1), some (.int x2), some (.int x3)] [] (mk vi vl) post :=
  wr_goto (off := -82) (t := 28) (by decide +kernel) (by decide) k1
theorem b_M_takesYears_113 {X : aX} {d : Nat} {post : aO} {vi : Nat → Nat → Int32} {vl : Nat → Nat → Int64} {x1 x2 : Int32} {o3 : Option Value} (k1 : ∀ w, w = up2 vi 96 5904 x2 → wp X (d + 1) k_M_takesYears 0 0 122 [some (.ref 95), some (.int x1), some (.int x2), o3] [] (mk w vl) post) : wp X (d + 1) k_M_takesYears 0 0 113 [some (.ref 95), some (.int x1), some (.int x2), o3] [] (mk vi vl) post :=
  wr_aload_n (q := 0) (by decide +kernel) rfl rfl <|
  wr_getR2 (b := 96) (ci := 4) (k0 := 0) (idx := 7) lq_95 sq_95 (by decide) (by decide) lf_M_7 rfl vq_95_0 lq_96 (by decide +kernel) <|
  wr_sipush (n := 5904) (v := (5904 : Int32)) (by decide +kernel) (by decide) <|
  wr_iload_n (q := 2) (by decide +kernel) rfl rfl <|
  wr_iast lq_96 sq_96 (by unfold vp_in; decide) (by decide +kernel) <|
  k1 _ rfl
theorem b_M_takesYears_122 {X : aX} {d : Nat} {post : aO} {vi : Nat → Nat → Int32} {vl : Nat → Nat → Int64} {x1 x2 : Int32} {o3 : Option Value} (k1 : x2 < (2 : Int32) → wp X (d + 1) k_M_takesYears 0 0 139 [some (.ref 95), some (.int x1), some (.int x2), o3] [] (mk vi vl) post) (k2 : ¬ x2 < (2 : Int32) → wp X (d + 1) k_M_takesYears 0 0 127 [some (.ref 95), some (.int x1), some (.int x2), o3] [] (mk vi vl) post) : wp X (d + 1) k_M_takesYears 0 0 122 [some (.ref 95), some (.int x1), some (.int x2), o3] [] (mk vi vl) post :=
  wr_iload_n (q := 2) (by decide +kernel) rfl rfl <|
  wr_iconst (n := 2) (v := (2 : Int32)) (by decide +kernel) (by decide) <|
  wr_icmp_lt (off := 15) (t := 139) (by decide +kernel) (by decide) k1 k2
theorem b_M_takesYears_127 {X : aX} {d : Nat} {post : aO} {vi : Nat → Nat → Int32} {vl : Nat → Nat → Int64} {x1 x2 : Int32} {o3 : Option Value} (k1 : CallOk X d 0 0 k_M_isSign [.ref 95, .int x1] (mk vi vl) (fun r N' => wp X (d + 1) k_M_takesYears 0 0 132 [some (.ref 95), some (.int x1), some (.int x2), o3] (pR r []) N' post)) : wp X (d + 1) k_M_takesYears 0 0 127 [some (.ref 95), some (.int x1), some (.int x2), o3] [] (mk vi vl) post :=
  wr_aload_n (q := 0) (by decide +kernel) rfl rfl <|
  wr_iload_n (q := 1) (by decide +kernel) rfl rfl <|
  wr_invV (a := 95) (ci := 4) (mid2 := 136) (idx := 104) (b1 := 0) (b2 := 0) (c1 := 0) (c2 := 0) (as := [.int x1]) (st := []) pl_136 rfl (Nat.le_of_ble_eq_true rfl) rfl rfl lq_95 sq_95 (by decide) rfl lm_M_104 im_136 is_136 (by decide +kernel) k1
theorem b_M_takesYears_132 {X : aX} {d : Nat} {post : aO} {vi : Nat → Nat → Int32} {vl : Nat → Nat → Int64} {x1 x2 y0 : Int32} {o3 : Option Value} (k1 : ¬ y0 = 0 → wp X (d + 1) k_M_takesYears 0 0 139 [some (.ref 95), some (.int x1), some (.int x2), o3] [] (mk vi vl) post) (k2 : y0 = 0 → wp X (d + 1) k_M_takesYears 0 0 135 [some (.ref 95), some (.int x1), some (.int x2), o3] [] (mk vi vl) post) : wp X (d + 1) k_M_takesYears 0 0 132 [some (.ref 95), some (.int x1), some (.int x2), o3] [.int y0] (mk vi vl) post :=
  wr_if_ne (off := 7) (t := 139) (by decide +kernel) (by decide) k1 k2
theorem b_M_takesYears_135 {X : aX} {d : Nat} {post : aO} {vi : Nat → Nat → Int32} {vl : Nat → Nat → Int64} {x1 x2 : Int32} {o3 : Option Value} (k1 : wp X (d + 1) k_M_takesYears 0 0 140 [some (.ref 95), some (.int x1), some (.int x2), o3] [.int (1 : Int32)] (mk vi vl) post) : wp X (d + 1) k_M_takesYears 0 0 135 [some (.ref 95), some (.int x1), some (.int x2), o3] [] (mk vi vl) post :=
  wr_iconst (n := 1) (v := (1 : Int32)) (by decide +kernel) (by decide) <|
  wr_goto (off := 4) (t := 140) (by decide +kernel) (by decide) k1
theorem b_M_takesYears_139 {X : aX} {d : Nat} {post : aO} {vi : Nat → Nat → Int32} {vl : Nat → Nat → Int64} {x1 x2 : Int32} {o3 : Option Value} (k1 : wp X (d + 1) k_M_takesYears 0 0 140 [some (.ref 95), some (.int x1), some (.int x2), o3] [.int (0 : Int32)] (mk vi vl) post) : wp X (d + 1) k_M_takesYears 0 0 139 [some (.ref 95), some (.int x1), some (.int x2), o3] [] (mk vi vl) post :=
  wr_iconst (n := 0) (v := (0 : Int32)) (by decide +kernel) (by decide) <|
  k1
theorem b_M_takesYears_140 {X : aX} {d : Nat} {post : aO} {vi : Nat → Nat → Int32} {vl : Nat → Nat → Int64} {x1 x2 y0 : Int32} {o3 : Option Value} (q1 : y0 = 0 ∨ y0 = 1) (k1 : post (some (.int y0)) (mk vi vl)) : wp X (d + 1) k_M_takesYears 0 0 140 [some (.ref 95), some (.int x1), some (.int x2), o3] [.int y0] (mk vi vl) post :=
  wr_ret (r := some (.int y0)) (Or.inr (Or.inl ⟨_, rfl, (by decide +kernel), (Or.inr ⟨rfl, q1⟩)⟩)) k1
theorem b_M_isSign_0 {X : aX} {d : Nat} {post : aO} {vi : Nat → Nat → Int32} {vl : Nat → Nat → Int64} {x1 : Int32} (k1 : CallOk X d 0 0 k_M_isScene [.ref 95, .int x1] (mk vi vl) (fun r N' => wp X (d + 1) k_M_isSign 0 0 5 [some (.ref 95), some (.int x1)] (pR r []) N' post)) : wp X (d + 1) k_M_isSign 0 0 0 [some (.ref 95), some (.int x1)] [] (mk vi vl) post :=
  wr_aload_n (q := 0) (by decide +kernel) rfl rfl <|
  wr_iload_n (q := 1) (by decide +kernel) rfl rfl <|
  wr_invV (a := 95) (ci := 4) (mid2 := 137) (idx := 101) (b1 := 0) (b2 := 0) (c1 := 0) (c2 := 0) (as := [.int x1]) (st := []) pl_137 rfl (Nat.le_of_ble_eq_true rfl) rfl rfl lq_95 sq_95 (by decide) rfl lm_M_101 im_137 is_137 (by decide +kernel) k1
theorem b_M_isSign_5 {X : aX} {d : Nat} {post : aO} {vi : Nat → Nat → Int32} {vl : Nat → Nat → Int64} {x1 y0 : Int32} (k1 : ¬ y0 = 0 → wp X (d + 1) k_M_isSign 0 0 22 [some (.ref 95), some (.int x1)] [] (mk vi vl) post) (k2 : y0 = 0 → wp X (d + 1) k_M_isSign 0 0 8 [some (.ref 95), some (.int x1)] [] (mk vi vl) post) : wp X (d + 1) k_M_isSign 0 0 5 [some (.ref 95), some (.int x1)] [.int y0] (mk vi vl) post :=
  wr_if_ne (off := 17) (t := 22) (by decide +kernel) (by decide) k1 k2
theorem b_M_isSign_8 {X : aX} {d : Nat} {post : aO} {vi : Nat → Nat → Int32} {vl : Nat → Nat → Int64} {x1 : Int32} (k1 : CallOk X d 0 0 k_M_byteAt [.ref 95, .int x1, .int (vi 95 13)] (mk vi vl) (fun r N' => wp X (d + 1) k_M_isSign 0 0 17 [some (.ref 95), some (.int x1)] (pR r []) N' post)) : wp X (d + 1) k_M_isSign 0 0 8 [some (.ref 95), some (.int x1)] [] (mk vi vl) post :=
  wr_aload_n (q := 0) (by decide +kernel) rfl rfl <|
  wr_iload_n (q := 1) (by decide +kernel) rfl rfl <|
  wr_aload_n (q := 0) (by decide +kernel) rfl rfl <|
  wr_getI (ci := 4) (k0 := 13) (idx := 91) lq_95 sq_95 (by decide) (by decide) lf_M_91 (Or.inl rfl) (by decide +kernel) <|
  wr_invV (a := 95) (ci := 4) (mid2 := 134) (idx := 94) (b1 := 0) (b2 := 0) (c1 := 0) (c2 := 0) (as := [.int x1, .int (vi 95 13)]) (st := []) pl_134 rfl (Nat.le_of_ble_eq_true rfl) rfl rfl lq_95 sq_95 (by decide) rfl lm_M_94 im_134 is_134 (by decide +kernel) k1
theorem b_M_isSign_17 {X : aX} {d : Nat} {post : aO} {vi : Nat → Nat → Int32} {vl : Nat → Nat → Int64} {x1 y0 : Int32} (k1 : ¬ y0 = (45 : Int32) → wp X (d + 1) k_M_isSign 0 0 26 [some (.ref 95), some (.int x1)] [] (mk vi vl) post) (k2 : y0 = (45 : Int32) → wp X (d + 1) k_M_isSign 0 0 22 [some (.ref 95), some (.int x1)] [] (mk vi vl) post) : wp X (d + 1) k_M_isSign 0 0 17 [some (.ref 95), some (.int x1)] [.int y0] (mk vi vl) post :=
  wr_bipush (n := 45) (v := (45 : Int32)) (by decide +kernel) (by decide) <|
  wr_icmp_ne (off := 7) (t := 26) (by decide +kernel) (by decide) k1 k2
theorem b_M_isSign_22 {X : aX} {d : Nat} {post : aO} {vi : Nat → Nat → Int32} {vl : Nat → Nat → Int64} {x1 : Int32} (k1 : wp X (d + 1) k_M_isSign 0 0 27 [some (.ref 95), some (.int x1)] [.int (1 : Int32)] (mk vi vl) post) : wp X (d + 1) k_M_isSign 0 0 22 [some (.ref 95), some (.int x1)] [] (mk vi vl) post :=
  wr_iconst (n := 1) (v := (1 : Int32)) (by decide +kernel) (by decide) <|
  wr_goto (off := 4) (t := 27) (by decide +kernel) (by decide) k1
theorem b_M_isSign_26 {X : aX} {d : Nat} {post : aO} {vi : Nat → Nat → Int32} {vl : Nat → Nat → Int64} {x1 : Int32} (k1 : wp X (d + 1) k_M_isSign 0 0 27 [some (.ref 95), some (.int x1)] [.int (0 : Int32)] (mk vi vl) post) : wp X (d + 1) k_M_isSign 0 0 26 [some (.ref 95), some (.int x1)] [] (mk vi vl) post :=
  wr_iconst (n := 0) (v := (0 : Int32)) (by decide +kernel) (by decide) <|
  k1
theorem b_M_isSign_27 {X : aX} {d : Nat} {post : aO} {vi : Nat → Nat → Int32} {vl : Nat → Nat → Int64} {x1 y0 : Int32} (q1 : y0 = 0 ∨ y0 = 1) (k1 : post (some (.int y0)) (mk vi vl)) : wp X (d + 1) k_M_isSign 0 0 27 [some (.ref 95), some (.int x1)] [.int y0] (mk vi vl) post :=
  wr_ret (r := some (.int y0)) (Or.inr (Or.inl ⟨_, rfl, (by decide +kernel), (Or.inr ⟨rfl, q1⟩)⟩)) k1
theorem b_M_isScene_0 {X : aX} {d : Nat} {post : aO} {vi : Nat → Nat → Int32} {vl : Nat → Nat → Int64} {x1 : Int32} (k1 : CallOk X d 0 0 k_M_byteAt [.ref 95, .int x1, .int (vi 95 13)] (mk vi vl) (fun r N' => wp X (d + 1) k_M_isScene 0 0 9 [some (.ref 95), some (.int x1)] (pR r []) N' post)) : wp X (d + 1) k_M_isScene 0 0 0 [some (.ref 95), some (.int x1)] [] (mk vi vl) post :=
  wr_aload_n (q := 0) (by decide +kernel) rfl rfl <|
  wr_iload_n (q := 1) (by decide +kernel) rfl rfl <|
  wr_aload_n (q := 0) (by decide +kernel) rfl rfl <|
  wr_getI (ci := 4) (k0 := 13) (idx := 91) lq_95 sq_95 (by decide) (by decide) lf_M_91 (Or.inl rfl) (by decide +kernel) <|
  wr_invV (a := 95) (ci := 4) (mid2 := 134) (idx := 94) (b1 := 0) (b2 := 0) (c1 := 0) (c2 := 0) (as := [.int x1, .int (vi 95 13)]) (st := []) pl_134 rfl (Nat.le_of_ble_eq_true rfl) rfl rfl lq_95 sq_95 (by decide) rfl lm_M_94 im_134 is_134 (by decide +kernel) k1
theorem b_M_isScene_9 {X : aX} {d : Nat} {post : aO} {vi : Nat → Nat → Int32} {vl : Nat → Nat → Int64} {x1 y0 : Int32} (k1 : CallOk X d 0 0 k_M_in [.long y0.toInt64, .long (48 : Int64), .long (52 : Int64)] (mk vi vl) (fun r N' => wp X (d + 1) k_M_isScene 0 0 19 [some (.ref 95), some (.int x1)] (pR r []) N' post)) : wp X (d + 1) k_M_isScene 0 0 9 [some (.ref 95), some (.int x1)] [.int y0] (mk vi vl) post :=
  wr_i2l (by decide +kernel) <|
  wr_ldc2 (i := 97) (v := (48 : Int64)) (by decide +kernel) lj_M_97 <|
  wr_ldc2 (i := 99) (v := (52 : Int64)) (by decide +kernel) lj_M_99 <|
  wr_invS (mid2 := 118) (idx := 59) (b1 := 0) (b2 := 0) (c1 := 0) (c2 := 0) (as := [.long y0.toInt64, .long (48 : Int64), .long (52 : Int64)]) (st := []) pl_118 rfl (Nat.le_of_ble_eq_true rfl) rfl rfl lm_M_59 it_118 (by decide +kernel) k1
theorem b_M_isScene_19 {X : aX} {d : Nat} {post : aO} {vi : Nat → Nat → Int32} {vl : Nat → Nat → Int64} {x1 y0 : Int32} (q1 : y0 = 0 ∨ y0 = 1) (k1 : post (some (.int y0)) (mk vi vl)) : wp X (d + 1) k_M_isScene 0 0 19 [some (.ref 95), some (.int x1)] [.int y0] (mk vi vl) post :=
  wr_ret (r := some (.int y0)) (Or.inr (Or.inl ⟨_, rfl, (by decide +kernel), (Or.inr ⟨rfl, q1⟩)⟩)) k1
theorem b_M_takesLaw_0 {X : aX} {d : Nat} {post : aO} {vi : Nat → Nat → Int32} {vl : Nat → Nat → Int64} {x1 : Int32} (k1 : CallOk X d 0 0 k_M_byteAt [.ref 95, .int x1, .int (vi 95 13)] (mk vi vl) (fun r N' => wp X (d + 1) k_M_takesLaw 0 0 9 [some (.ref 95), some (.int x1), none, none, none] (pR r []) N' post)) : wp X (d + 1) k_M_takesLaw 0 0 0 [some (.ref 95), some (.int x1), none, none, none] [] (mk vi vl) post :=
  wr_aload_n (q := 0) (by decide +kernel) rfl rfl <|
  wr_iload_n (q := 1) (by decide +kernel) rfl rfl <|
  wr_aload_n (q := 0) (by decide +kernel) rfl rfl <|
  wr_getI (ci := 4) (k0 := 13) (idx := 91) lq_95 sq_95 (by decide) (by decide) lf_M_91 (Or.inl rfl) (by decide +kernel) <|
  wr_invV (a := 95) (ci := 4) (mid2 := 134) (idx := 94) (b1 := 0) (b2 := 0) (c1 := 0) (c2 := 0) (as := [.int x1, .int (vi 95 13)]) (st := []) pl_134 rfl (Nat.le_of_ble_eq_true rfl) rfl rfl lq_95 sq_95 (by decide) rfl lm_M_94 im_134 is_134 (by decide +kernel) k1
theorem b_M_takesLaw_9 {X : aX} {d : Nat} {post : aO} {vi : Nat → Nat → Int32} {vl : Nat → Nat → Int64} {x1 y0 : Int32} {o2 o3 o4 : Option Value} (k1 : CallOk X d 0 0 k_M_kindOf [.int y0] (mk vi vl) (fun r N' => wp X (d + 1) k_M_takesLaw 0 0 12 [some (.ref 95), some (.int x1), o2, o3, o4] (pR r []) N' post)) : wp X (d + 1) k_M_takesLaw 0 0 9 [some (.ref 95), some (.int x1), o2, o3, o4] [.int y0] (mk vi vl) post :=
  wr_invS (mid2 := 139) (idx := 107) (b1 := 0) (b2 := 0) (c1 := 0) (c2 := 0) (as := [.int y0]) (st := []) pl_139 rfl (Nat.le_of_ble_eq_true rfl) rfl rfl lm_M_107 it_139 (by decide +kernel) k1
theorem b_M_takesLaw_12 {X : aX} {d : Nat} {post : aO} {vi : Nat → Nat → Int32} {vl : Nat → Nat → Int64} {x1 y0 : Int32} {o2 o3 o4 : Option Value} (k1 : y0 < 0 → wp X (d + 1) k_M_takesLaw 0 0 32 [some (.ref 95), some (.int x1), some (.int y0), some (.int (vi 96 5905)), o4] [] (mk vi vl) post) (k2 : ¬ y0 < 0 → wp X (d + 1) k_M_takesLaw 0 0 26 [some (.ref 95), some (.int x1), some (.int y0), some (.int (vi 96 5905)), o4] [] (mk vi vl) post) : wp X (d + 1) k_M_takesLaw 0 0 12 [some (.ref 95), some (.int x1), o2, o3, o4] [.int y0] (mk vi vl) post :=
  wr_istore_n (q := 2) (by decide +kernel) rfl (by decide) <|
  wr_aload_n (q := 0) (by decide +kernel) rfl rfl <|
  wr_getR2 (b := 96) (ci := 4) (k0 := 0) (idx := 7) lq_95 sq_95 (by decide) (by decide) lf_M_7 rfl vq_95_0 lq_96 (by decide +kernel) <|
  wr_sipush (n := 5905) (v := (5905 : Int32)) (by decide +kernel) (by decide) <|
  wr_iald lq_96 sq_96 (by unfold vp_in; decide) (by decide +kernel) <|
  wr_istore_n (q := 3) (by decide +kernel) rfl (by decide) <|
  wr_iload_n (q := 2) (by decide +kernel) rfl rfl <|
  wr_if_lt (off := 9) (t := 32) (by decide +kernel) (by decide) k1 k2
theorem b_M_takesLaw_26 {X : aX} {d : Nat} {post : aO} {vi : Nat → Nat → Int32} {vl : Nat → Nat → Int64} {x1 x2 x3 : Int32} {o4 : Option Value} (k1 : ¬ x3 = (8 : Int32) → wp X (d + 1) k_M_takesLaw 0 0 34 [some (.ref 95), some (.int x1), some (.int x2), some (.int x3), o4] [] (mk vi vl) post) (k2 : x3 = (8 : Int32) → wp X (d + 1) k_M_takesLaw 0 0 32 [some (.ref 95), some (.int x1), some (.int x2), some (.int x3), o4] [] (mk vi vl) post) : wp X (d + 1) k_M_takesLaw 0 0 26 [some (.ref 95), some (.int x1), some (.int x2), some (.int x3), o4] [] (mk vi vl) post :=
  wr_iload_n (q := 3) (by decide +kernel) rfl rfl <|
  wr_bipush (n := 8) (v := (8 : Int32)) (by decide +kernel) (by decide) <|
  wr_icmp_ne (off := 5) (t := 34) (by decide +kernel) (by decide) k1 k2
theorem b_M_takesLaw_32 {X : aX} {d : Nat} {post : aO} {vi : Nat → Nat → Int32} {vl : Nat → Nat → Int64} {x1 x2 x3 : Int32} {o4 : Option Value} (k1 : post (some (.int (0 : Int32))) (mk vi vl)) : wp X (d + 1) k_M_takesLaw 0 0 32 [some (.ref 95), some (.int x1), some (.int x2), some (.int x3), o4] [] (mk vi vl) post :=
  wr_iconst (n := 0) (v := (0 : Int32)) (by decide +kernel) (by decide) <|
  wr_ret (r := some (.int (0 : Int32))) (Or.inr (Or.inl ⟨_, rfl, (by decide +kernel), (Or.inr ⟨rfl, (by decide)⟩)⟩)) k1
theorem b_M_takesLaw_34 {X : aX} {d : Nat} {post : aO} {vi : Nat → Nat → Int32} {vl : Nat → Nat → Int64} {x1 x2 x3 : Int32} {o4 : Option Value} (q1 : vp_in ((5916 : Int32) + x3) 5976) (k1 : ∀ w, w = up2 vi 96 ((5916 : Int32) + x3).toNatClampNeg x2 → wp X (d + 1) k_M_takesLaw 0 0 45 [some (.ref 95), some (.int x1), some (.int x2), some (.int x3), o4] [] (mk w vl) post) : wp X (d + 1) k_M_takesLaw 0 0 34 [some (.ref 95), some (.int x1), some (.int x2), some (.int x3), o4] [] (mk vi vl) post :=
  wr_aload_n (q := 0) (by decide +kernel) rfl rfl <|
  wr_getR2 (b := 96) (ci := 4) (k0 := 0) (idx := 7) lq_95 sq_95 (by decide) (by decide) lf_M_7 rfl vq_95_0 lq_96 (by decide +kernel) <|
  wr_sipush (n := 5916) (v := (5916 : Int32)) (by decide +kernel) (by decide) <|
  wr_iload_n (q := 3) (by decide +kernel) rfl rfl <|
  wr_iadd (by decide +kernel) <|
  wr_iload_n (q := 2) (by decide +kernel) rfl rfl <|
  wr_iast lq_96 sq_96 q1 (by decide +kernel) <|
  k1 _ rfl
theorem b_M_takesLaw_45 {X : aX} {d : Nat} {post : aO} {vi : Nat → Nat → Int32} {vl : Nat → Nat → Int64} {x1 x2 x3 : Int32} {o4 : Option Value} (k1 : ∀ w, w = up2 vi 95 13 ((vi 95 13) + (1 : Int32)) → wp X (d + 1) k_M_takesLaw 0 0 55 [some (.ref 95), some (.int x1), some (.int x2), some (.int x3), o4] [] (mk w vl) post) : wp X (d + 1) k_M_takesLaw 0 0 45 [some (.ref 95), some (.int x1), some (.int x2), some (.int x3), o4] [] (mk vi vl) post :=
  wr_aload_n (q := 0) (by decide +kernel) rfl rfl <|
  wr_dup (by decide +kernel) rfl <|
  wr_getI (ci := 4) (k0 := 13) (idx := 91) lq_95 sq_95 (by decide) (by decide) lf_M_91 (Or.inl rfl) (by decide +kernel) <|
  wr_iconst (n := 1) (v := (1 : Int32)) (by decide +kernel) (by decide) <|
  wr_iadd (by decide +kernel) <|
  wr_putI (ci := 4) (k0 := 13) (idx := 91) lq_95 sq_95 (by decide) (by decide) lf_M_91 rfl (by decide +kernel) <|
  k1 _ rfl
theorem b_M_takesLaw_55 {X : aX} {d : Nat} {post : aO} {vi : Nat → Nat → Int32} {vl : Nat → Nat → Int64} {x1 x2 x3 : Int32} {o4 : Option Value} (k1 : wp X (d + 1) k_M_takesLaw 0 0 58 [some (.ref 95), some (.int x1), some (.int x2), some (.int x3), some (.int (0 : Int32))] [] (mk vi vl) post) : wp X (d + 1) k_M_takesLaw 0 0 55 [some (.ref 95), some (.int x1), some (.int x2), some (.int x3), o4] [] (mk vi vl) post :=
  wr_iconst (n := 0) (v := (0 : Int32)) (by decide +kernel) (by decide) <|
  wr_istore (i := 4) (by decide +kernel) (by decide) <|
  k1
theorem b_M_takesLaw_58 {X : aX} {d : Nat} {post : aO} {vi : Nat → Nat → Int32} {vl : Nat → Nat → Int64} {x1 x2 x3 x4 : Int32} (k1 : (2 : Int32) ≤ x4 → wp X (d + 1) k_M_takesLaw 0 0 118 [some (.ref 95), some (.int x1), some (.int x2), some (.int x3), some (.int x4)] [] (mk vi vl) post) (k2 : ¬ (2 : Int32) ≤ x4 → wp X (d + 1) k_M_takesLaw 0 0 64 [some (.ref 95), some (.int x1), some (.int x2), some (.int x3), some (.int x4)] [] (mk vi vl) post) : wp X (d + 1) k_M_takesLaw 0 0 58 [some (.ref 95), some (.int x1), some (.int x2), some (.int x3), some (.int x4)] [] (mk vi vl) post :=
  wr_iload (i := 4) (by decide +kernel) rfl <|
  wr_iconst (n := 2) (v := (2 : Int32)) (by decide +kernel) (by decide) <|
  wr_icmp_ge (off := 57) (t := 118) (by decide +kernel) (by decide) k1 k2
theorem b_M_takesLaw_64 {X : aX} {d : Nat} {post : aO} {vi : Nat → Nat → Int32} {vl : Nat → Nat → Int64} {x1 x2 x3 x4 : Int32} (k1 : CallOk X d 0 0 k_M_isScene [.ref 95, .int x1] (mk vi vl) (fun r N' => wp X (d + 1) k_M_takesLaw 0 0 69 [some (.ref 95), some (.int x1), some (.int x2), some (.int x3), some (.int x4)] (pR r []) N' post)) : wp X (d + 1) k_M_takesLaw 0 0 64 [some (.ref 95), some (.int x1), some (.int x2), some (.int x3), some (.int x4)] [] (mk vi vl) post :=
  wr_aload_n (q := 0) (by decide +kernel) rfl rfl <|
  wr_iload_n (q := 1) (by decide +kernel) rfl rfl <|
  wr_invV (a := 95) (ci := 4) (mid2 := 137) (idx := 101) (b1 := 0) (b2 := 0) (c1 := 0) (c2 := 0) (as := [.int x1]) (st := []) pl_137 rfl (Nat.le_of_ble_eq_true rfl) rfl rfl lq_95 sq_95 (by decide) rfl lm_M_101 im_137 is_137 (by decide +kernel) k1
theorem b_M_takesLaw_69 {X : aX} {d : Nat} {post : aO} {vi : Nat → Nat → Int32} {vl : Nat → Nat → Int64} {x1 x2 x3 x4 y0 : Int32} (k1 : ¬ y0 = 0 → wp X (d + 1) k_M_takesLaw 0 0 74 [some (.ref 95), some (.int x1), some (.int x2), some (.int x3), some (.int x4)] [] (mk vi vl) post) (k2 : y0 = 0 → wp X (d + 1) k_M_takesLaw 0 0 72 [some (.ref 95), some (.int x1), some (.int x2), some (.int x3), some (.int x4)] [] (mk vi vl) post) : wp X (d + 1) k_M_takesLaw 0 0 69 [some (.ref 95), some (.int x1), some (.int x2), some (.int x3), some (.int x4)] [.int y0] (mk vi vl) post :=
  wr_if_ne (off := 5) (t := 74) (by decide +kernel) (by decide) k1 k2
theorem b_M_takesLaw_72 {X : aX} {d : Nat} {post : aO} {vi : Nat → Nat → Int32} {vl : Nat → Nat → Int64} {x1 x2 x3 x4 : Int32} (k1 : post (some (.int (0 : Int32))) (mk vi vl)) : wp X (d + 1) k_M_takesLaw 0 0 72 [some (.ref 95), some (.int x1), some (.int x2), some (.int x3), some (.int x4)] [] (mk vi vl) post :=
  wr_iconst (n := 0) (v := (0 : Int32)) (by decide +kernel) (by decide) <|
  wr_ret (r := some (.int (0 : Int32))) (Or.inr (Or.inl ⟨_, rfl, (by decide +kernel), (Or.inr ⟨rfl, (by decide)⟩)⟩)) k1
theorem b_M_takesLaw_74 {X : aX} {d : Nat} {post : aO} {vi : Nat → Nat → Int32} {vl : Nat → Nat → Int64} {x1 x2 x3 x4 : Int32} (k1 : CallOk X d 0 0 k_M_byteAt [.ref 95, .int x1, .int (vi 95 13)] (mk vi vl) (fun r N' => wp X (d + 1) k_M_takesLaw 0 0 98 [some (.ref 95), some (.int x1), some (.int x2), some (.int x3), some (.int x4)] (pR r [.int (((5924 : Int32) + ((8 : Int32) * x4)) + x3), .ref 96]) N' post)) : wp X (d + 1) k_M_takesLaw 0 0 74 [some (.ref 95), some (.int x1), some (.int x2), some (.int x3), some (.int x4)] [] (mk vi vl) post :=
  wr_aload_n (q := 0) (by decide +kernel) rfl rfl <|
  wr_getR2 (b := 96) (ci := 4) (k0 := 0) (idx := 7) lq_95 sq_95 (by decide) (by decide) lf_M_7 rfl vq_95_0 lq_96 (by decide +kernel) <|
  wr_sipush (n := 5924) (v := (5924 : Int32)) (by decide +kernel) (by decide) <|
  wr_bipush (n := 8) (v := (8 : Int32)) (by decide +kernel) (by decide) <|
  wr_iload (i := 4) (by decide +kernel) rfl <|
  wr_imul (by decide +kernel) <|
  wr_iadd (by decide +kernel) <|
  wr_iload_n (q := 3) (by decide +kernel) rfl rfl <|
  wr_iadd (by decide +kernel) <|
  wr_aload_n (q := 0) (by decide +kernel) rfl rfl <|
  wr_iload_n (q := 1) (by decide +kernel) rfl rfl <|
  wr_aload_n (q := 0) (by decide +kernel) rfl rfl <|
  wr_getI (ci := 4) (k0 := 13) (idx := 91) lq_95 sq_95 (by decide) (by decide) lf_M_91 (Or.inl rfl) (by decide +kernel) <|
  wr_invV (a := 95) (ci := 4) (mid2 := 134) (idx := 94) (b1 := 0) (b2 := 0) (c1 := 0) (c2 := 0) (as := [.int x1, .int (vi 95 13)]) (st := [.int (((5924 : Int32) + ((8 : Int32) * x4)) + x3), .ref 96]) pl_134 rfl (Nat.le_of_ble_eq_true rfl) rfl rfl lq_95 sq_95 (by decide) rfl lm_M_94 im_134 is_134 (by decide +kernel) k1
theorem b_M_takesLaw_98 {X : aX} {d : Nat} {post : aO} {vi : Nat → Nat → Int32} {vl : Nat → Nat → Int64} {x1 x2 x3 x4 y1 y2 : Int32} (q1 : vp_in y1 5976) (k1 : ∀ w, w = up2 vi 96 y1.toNatClampNeg (y2 - (48 : Int32)) → wp X (d + 1) k_M_takesLaw 0 0 102 [some (.ref 95), some (.int x1), some (.int x2), some (.int x3), some (.int x4)] [] (mk w vl) post) : wp X (d + 1) k_M_takesLaw 0 0 98 [some (.ref 95), some (.int x1), some (.int x2), some (.int x3), some (.int x4)] [.int y2, .int y1, .ref 96] (mk vi vl) post :=
  wr_bipush (n := 48) (v := (48 : Int32)) (by decide +kernel) (by decide) <|
  wr_isub (by decide +kernel) <|
  wr_iast lq_96 sq_96 q1 (by decide +kernel) <|
  k1 _ rfl
theorem b_M_takesLaw_102 {X : aX} {d : Nat} {post : aO} {vi : Nat → Nat → Int32} {vl : Nat → Nat → Int64} {x1 x2 x3 x4 : Int32} (k1 : ∀ w, w = up2 vi 95 13 ((vi 95 13) + (1 : Int32)) → wp X (d + 1) k_M_takesLaw 0 0 112 [some (.ref 95), some (.int x1), some (.int x2), some (.int x3), some (.int x4)] [] (mk w vl) post) : wp X (d + 1) k_M_takesLaw 0 0 102 [some (.ref 95), some (.int x1), some (.int x2), some (.int x3), some (.int x4)] [] (mk vi vl) post :=
  wr_aload_n (q := 0) (by decide +kernel) rfl rfl <|
  wr_dup (by decide +kernel) rfl <|
  wr_getI (ci := 4) (k0 := 13) (idx := 91) lq_95 sq_95 (by decide) (by decide) lf_M_91 (Or.inl rfl) (by decide +kernel) <|
  wr_iconst (n := 1) (v := (1 : Int32)) (by decide +kernel) (by decide) <|
  wr_iadd (by decide +kernel) <|
  wr_putI (ci := 4) (k0 := 13) (idx := 91) lq_95 sq_95 (by decide) (by decide) lf_M_91 rfl (by decide +kernel) <|
  k1 _ rfl
theorem b_M_takesLaw_112 {X : aX} {d : Nat} {post : aO} {vi : Nat → Nat → Int32} {vl : Nat → Nat → Int64} {x1 x2 x3 x4 : Int32} (k1 : wp X (d + 1) k_M_takesLaw 0 0 58 [some (.ref 95), some (.int x1), some (.int x2), some (.int x3), some (.int (x4 + (1 : Int32)))] [] (mk vi vl) post) : wp X (d + 1) k_M_takesLaw 0 0 112 [some (.ref 95), some (.int x1), some (.int x2), some (.int x3), some (.int x4)] [] (mk vi vl) post :=
  wr_iinc (i := 4) (n := 1) (v := (1 : Int32)) (by decide +kernel) rfl (by decide) (by decide) <|
  wr_goto (off := -57) (t := 58) (by decide +kernel) (by decide) k1
theorem b_M_takesLaw_118 {X : aX} {d : Nat} {post : aO} {vi : Nat → Nat → Int32} {vl : Nat → Nat → Int64} {x1 x2 x3 x4 : Int32} (k1 : ∀ w, w = up2 vi 96 5905 ((vi 96 5905) + (1 : Int32)) → wp X (d + 1) k_M_takesLaw 0 0 130 [some (.ref 95), some (.int x1), some (.int x2), some (.int x3), some (.int x4)] [] (mk w vl) post) : wp X (d + 1) k_M_takesLaw 0 0 118 [some (.ref 95), some (.int x1), some (.int x2), some (.int x3), some (.int x4)] [] (mk vi vl) post :=
  wr_aload_n (q := 0) (by decide +kernel) rfl rfl <|
  wr_getR2 (b := 96) (ci := 4) (k0 := 0) (idx := 7) lq_95 sq_95 (by decide) (by decide) lf_M_7 rfl vq_95_0 lq_96 (by decide +kernel) <|
  wr_sipush (n := 5905) (v := (5905 : Int32)) (by decide +kernel) (by decide) <|
  wr_dup2 (by decide +kernel) rfl rfl <|
  wr_iald lq_96 sq_96 (by unfold vp_in; decide) (by decide +kernel) <|
  wr_iconst (n := 1) (v := (1 : Int32)) (by decide +kernel) (by decide) <|
  wr_iadd (by decide +kernel) <|
  wr_iast lq_96 sq_96 (by unfold vp_in; decide) (by decide +kernel) <|
  k1 _ rfl
theorem b_M_takesLaw_130 {X : aX} {d : Nat} {post : aO} {vi : Nat → Nat → Int32} {vl : Nat → Nat → Int64} {x1 x2 x3 x4 : Int32} (k1 : post (some (.int (1 : Int32))) (mk vi vl)) : wp X (d + 1) k_M_takesLaw 0 0 130 [some (.ref 95), some (.int x1), some (.int x2), some (.int x3), some (.int x4)] [] (mk vi vl) post :=
  wr_iconst (n := 1) (v := (1 : Int32)) (by decide +kernel) (by decide) <|
  wr_ret (r := some (.int (1 : Int32))) (Or.inr (Or.inl ⟨_, rfl, (by decide +kernel), (Or.inr ⟨rfl, (by decide)⟩)⟩)) k1
theorem b_M_kindOf_0 {X : aX} {d : Nat} {post : aO} {vi : Nat → Nat → Int32} {vl : Nat → Nat → Int64} {x0 : Int32} (k1 : ¬ x0 = (108 : Int32) → wp X (d + 1) k_M_kindOf 0 0 10 [some (.int x0)] [] (mk vi vl) post) (k2 : x0 = (108 : Int32) → wp X (d + 1) k_M_kindOf 0 0 6 [some (.int x0)] [] (mk vi vl) post) : wp X (d + 1) k_M_kindOf 0 0 0 [some (.int x0)] [] (mk vi vl) post :=
  wr_iload_n (q := 0) (by decide +kernel) rfl rfl <|
  wr_bipush (n := 108) (v := (108 : Int32)) (by decide +kernel) (by decide) <|
  wr_icmp_ne (off := 7) (t := 10) (by decide +kernel) (by decide) k1 k2
theorem b_M_kindOf_6 {X : aX} {d : Nat} {post : aO} {vi : Nat → Nat → Int32} {vl : Nat → Nat → Int64} {x0 : Int32} (k1 : wp X (d + 1) k_M_kindOf 0 0 61 [some (.int x0)] [.int (0 : Int32)] (mk vi vl) post) : wp X (d + 1) k_M_kindOf 0 0 6 [some (.int x0)] [] (mk vi vl) post :=
  wr_iconst (n := 0) (v := (0 : Int32)) (by decide +kernel) (by decide) <|
  wr_goto (off := 54) (t := 61) (by decide +kernel) (by decide) k1
theorem b_M_kindOf_10 {X : aX} {d : Nat} {post : aO} {vi : Nat → Nat → Int32} {vl : Nat → Nat → Int64} {x0 : Int32} (k1 : ¬ x0 = (98 : Int32) → wp X (d + 1) k_M_kindOf 0 0 20 [some (.int x0)] [] (mk vi vl) post) (k2 : x0 = (98 : Int32) → wp X (d + 1) k_M_kindOf 0 0 16 [some (.int x0)] [] (mk vi vl) post) : wp X (d + 1) k_M_kindOf 0 0 10 [some (.int x0)] [] (mk vi vl) post :=
  wr_iload_n (q := 0) (by decide +kernel) rfl rfl <|
  wr_bipush (n := 98) (v := (98 : Int32)) (by decide +kernel) (by decide) <|
  wr_icmp_ne (off := 7) (t := 20) (by decide +kernel) (by decide) k1 k2
theorem b_M_kindOf_16 {X : aX} {d : Nat} {post : aO} {vi : Nat → Nat → Int32} {vl : Nat → Nat → Int64} {x0 : Int32} (k1 : wp X (d + 1) k_M_kindOf 0 0 61 [some (.int x0)] [.int (1 : Int32)] (mk vi vl) post) : wp X (d + 1) k_M_kindOf 0 0 16 [some (.int x0)] [] (mk vi vl) post :=
  wr_iconst (n := 1) (v := (1 : Int32)) (by decide +kernel) (by decide) <|
  wr_goto (off := 44) (t := 61) (by decide +kernel) (by decide) k1
theorem b_M_kindOf_20 {X : aX} {d : Nat} {post : aO} {vi : Nat → Nat → Int32} {vl : Nat → Nat → Int64} {x0 : Int32} (k1 : ¬ x0 = (103 : Int32) → wp X (d + 1) k_M_kindOf 0 0 30 [some (.int x0)] [] (mk vi vl) post) (k2 : x0 = (103 : Int32) → wp X (d + 1) k_M_kindOf 0 0 26 [some (.int x0)] [] (mk vi vl) post) : wp X (d + 1) k_M_kindOf 0 0 20 [some (.int x0)] [] (mk vi vl) post :=
  wr_iload_n (q := 0) (by decide +kernel) rfl rfl <|
  wr_bipush (n := 103) (v := (103 : Int32)) (by decide +kernel) (by decide) <|
  wr_icmp_ne (off := 7) (t := 30) (by decide +kernel) (by decide) k1 k2
theorem b_M_kindOf_26 {X : aX} {d : Nat} {post : aO} {vi : Nat → Nat → Int32} {vl : Nat → Nat → Int64} {x0 : Int32} (k1 : wp X (d + 1) k_M_kindOf 0 0 61 [some (.int x0)] [.int (2 : Int32)] (mk vi vl) post) : wp X (d + 1) k_M_kindOf 0 0 26 [some (.int x0)] [] (mk vi vl) post :=
  wr_iconst (n := 2) (v := (2 : Int32)) (by decide +kernel) (by decide) <|
  wr_goto (off := 34) (t := 61) (by decide +kernel) (by decide) k1
theorem b_M_kindOf_30 {X : aX} {d : Nat} {post : aO} {vi : Nat → Nat → Int32} {vl : Nat → Nat → Int64} {x0 : Int32} (k1 : ¬ x0 = (101 : Int32) → wp X (d + 1) k_M_kindOf 0 0 40 [some (.int x0)] [] (mk vi vl) post) (k2 : x0 = (101 : Int32) → wp X (d + 1) k_M_kindOf 0 0 36 [some (.int x0)] [] (mk vi vl) post) : wp X (d + 1) k_M_kindOf 0 0 30 [some (.int x0)] [] (mk vi vl) post :=
  wr_iload_n (q := 0) (by decide +kernel) rfl rfl <|
  wr_bipush (n := 101) (v := (101 : Int32)) (by decide +kernel) (by decide) <|
  wr_icmp_ne (off := 7) (t := 40) (by decide +kernel) (by decide) k1 k2
theorem b_M_kindOf_36 {X : aX} {d : Nat} {post : aO} {vi : Nat → Nat → Int32} {vl : Nat → Nat → Int64} {x0 : Int32} (k1 : wp X (d + 1) k_M_kindOf 0 0 61 [some (.int x0)] [.int (3 : Int32)] (mk vi vl) post) : wp X (d + 1) k_M_kindOf 0 0 36 [some (.int x0)] [] (mk vi vl) post :=
  wr_iconst (n := 3) (v := (3 : Int32)) (by decide +kernel) (by decide) <|
  wr_goto (off := 24) (t := 61) (by decide +kernel) (by decide) k1
theorem b_M_kindOf_40 {X : aX} {d : Nat} {post : aO} {vi : Nat → Nat → Int32} {vl : Nat → Nat → Int64} {x0 : Int32} (k1 : ¬ x0 = (107 : Int32) → wp X (d + 1) k_M_kindOf 0 0 50 [some (.int x0)] [] (mk vi vl) post) (k2 : x0 = (107 : Int32) → wp X (d + 1) k_M_kindOf 0 0 46 [some (.int x0)] [] (mk vi vl) post) : wp X (d + 1) k_M_kindOf 0 0 40 [some (.int x0)] [] (mk vi vl) post :=
  wr_iload_n (q := 0) (by decide +kernel) rfl rfl <|
  wr_bipush (n := 107) (v := (107 : Int32)) (by decide +kernel) (by decide) <|
  wr_icmp_ne (off := 7) (t := 50) (by decide +kernel) (by decide) k1 k2
theorem b_M_kindOf_46 {X : aX} {d : Nat} {post : aO} {vi : Nat → Nat → Int32} {vl : Nat → Nat → Int64} {x0 : Int32} (k1 : wp X (d + 1) k_M_kindOf 0 0 61 [some (.int x0)] [.int (4 : Int32)] (mk vi vl) post) : wp X (d + 1) k_M_kindOf 0 0 46 [some (.int x0)] [] (mk vi vl) post :=
  wr_iconst (n := 4) (v := (4 : Int32)) (by decide +kernel) (by decide) <|
  wr_goto (off := 14) (t := 61) (by decide +kernel) (by decide) k1
theorem b_M_kindOf_50 {X : aX} {d : Nat} {post : aO} {vi : Nat → Nat → Int32} {vl : Nat → Nat → Int64} {x0 : Int32} (k1 : ¬ x0 = (115 : Int32) → wp X (d + 1) k_M_kindOf 0 0 60 [some (.int x0)] [] (mk vi vl) post) (k2 : x0 = (115 : Int32) → wp X (d + 1) k_M_kindOf 0 0 56 [some (.int x0)] [] (mk vi vl) post) : wp X (d + 1) k_M_kindOf 0 0 50 [some (.int x0)] [] (mk vi vl) post :=
  wr_iload_n (q := 0) (by decide +kernel) rfl rfl <|
  wr_bipush (n := 115) (v := (115 : Int32)) (by decide +kernel) (by decide) <|
  wr_icmp_ne (off := 7) (t := 60) (by decide +kernel) (by decide) k1 k2
theorem b_M_kindOf_56 {X : aX} {d : Nat} {post : aO} {vi : Nat → Nat → Int32} {vl : Nat → Nat → Int64} {x0 : Int32} (k1 : wp X (d + 1) k_M_kindOf 0 0 61 [some (.int x0)] [.int (5 : Int32)] (mk vi vl) post) : wp X (d + 1) k_M_kindOf 0 0 56 [some (.int x0)] [] (mk vi vl) post :=
  wr_iconst (n := 5) (v := (5 : Int32)) (by decide +kernel) (by decide) <|
  wr_goto (off := 4) (t := 61) (by decide +kernel) (by decide) k1
theorem b_M_kindOf_60 {X : aX} {d : Nat} {post : aO} {vi : Nat → Nat → Int32} {vl : Nat → Nat → Int64} {x0 : Int32} (k1 : wp X (d + 1) k_M_kindOf 0 0 61 [some (.int x0)] [.int (-1 : Int32)] (mk vi vl) post) : wp X (d + 1) k_M_kindOf 0 0 60 [some (.int x0)] [] (mk vi vl) post :=
  wr_iconst (n := -1) (v := (-1 : Int32)) (by decide +kernel) (by decide) <|
  k1
theorem b_M_kindOf_61 {X : aX} {d : Nat} {post : aO} {vi : Nat → Nat → Int32} {vl : Nat → Nat → Int64} {x0 y0 : Int32} (k1 : post (some (.int y0)) (mk vi vl)) : wp X (d + 1) k_M_kindOf 0 0 61 [some (.int x0)] [.int y0] (mk vi vl) post :=
  wr_ret (r := some (.int y0)) (Or.inr (Or.inl ⟨_, rfl, (by decide +kernel), (Or.inl rfl)⟩)) k1
theorem b_M_cloth_0 {X : aX} {d : Nat} {post : aO} {vi : Nat → Nat → Int32} {vl : Nat → Nat → Int64} {x1 : Int32} (k1 : CallOk X d 0 0 k_M_isText [.int x1] (mk vi vl) (fun r N' => wp X (d + 1) k_M_cloth 0 0 4 [some (.ref 95), some (.int x1), none] (pR r []) N' post)) : wp X (d + 1) k_M_cloth 0 0 0 [some (.ref 95), some (.int x1), none] [] (mk vi vl) post :=
  wr_iload_n (q := 1) (by decide +kernel) rfl rfl <|
  wr_invS (mid2 := 129) (idx := 88) (b1 := 0) (b2 := 0) (c1 := 0) (c2 := 0) (as := [.int x1]) (st := []) pl_129 rfl (Nat.le_of_ble_eq_true rfl) rfl rfl lm_M_88 it_129 (by decide +kernel) k1
theorem b_M_cloth_4 {X : aX} {d : Nat} {post : aO} {vi : Nat → Nat → Int32} {vl : Nat → Nat → Int64} {x1 y0 : Int32} {o2 : Option Value} (k1 : ¬ y0 = 0 → wp X (d + 1) k_M_cloth 0 0 9 [some (.ref 95), some (.int x1), o2] [] (mk vi vl) post) (k2 : y0 = 0 → wp X (d + 1) k_M_cloth 0 0 7 [some (.ref 95), some (.int x1), o2] [] (mk vi vl) post) : wp X (d + 1) k_M_cloth 0 0 4 [some (.ref 95), some (.int x1), o2] [.int y0] (mk vi vl) post :=
  wr_if_ne (off := 5) (t := 9) (by decide +kernel) (by decide) k1 k2
theorem b_M_cloth_7 {X : aX} {d : Nat} {post : aO} {vi : Nat → Nat → Int32} {vl : Nat → Nat → Int64} {x1 : Int32} {o2 : Option Value} (k1 : post (some (.int (-1 : Int32))) (mk vi vl)) : wp X (d + 1) k_M_cloth 0 0 7 [some (.ref 95), some (.int x1), o2] [] (mk vi vl) post :=
  wr_iconst (n := -1) (v := (-1 : Int32)) (by decide +kernel) (by decide) <|
  wr_ret (r := some (.int (-1 : Int32))) (Or.inr (Or.inl ⟨_, rfl, (by decide +kernel), (Or.inl rfl)⟩)) k1
theorem b_M_cloth_9 {X : aX} {d : Nat} {post : aO} {vi : Nat → Nat → Int32} {vl : Nat → Nat → Int64} {x1 : Int32} {o2 : Option Value} (q1 : vp_in x1 4) (k1 : 0 ≤ (vi 101 x1.toNatClampNeg) → wp X (d + 1) k_M_cloth 0 0 24 [some (.ref 95), some (.int x1), o2] [] (mk vi vl) post) (k2 : ¬ 0 ≤ (vi 101 x1.toNatClampNeg) → wp X (d + 1) k_M_cloth 0 0 18 [some (.ref 95), some (.int x1), o2] [] (mk vi vl) post) : wp X (d + 1) k_M_cloth 0 0 9 [some (.ref 95), some (.int x1), o2] [] (mk vi vl) post :=
  wr_aload_n (q := 0) (by decide +kernel) rfl rfl <|
  wr_getR2 (b := 101) (ci := 4) (k0 := 6) (idx := 25) lq_95 sq_95 (by decide) (by decide) lf_M_25 rfl vq_95_6 lq_101 (by decide +kernel) <|
  wr_iload_n (q := 1) (by decide +kernel) rfl rfl <|
  wr_iald lq_101 sq_101 q1 (by decide +kernel) <|
  wr_if_ge (off := 9) (t := 24) (by decide +kernel) (by decide) k1 k2
theorem b_M_cloth_18 {X : aX} {d : Nat} {post : aO} {vi : Nat → Nat → Int32} {vl : Nat → Nat → Int64} {x1 : Int32} {o2 : Option Value} (k1 : CallOk X d 0 0 k_M_found [.ref 95, .int (1 : Int32)] (mk vi vl) (fun r N' => wp X (d + 1) k_M_cloth 0 0 23 [some (.ref 95), some (.int x1), o2] (pR r []) N' post)) : wp X (d + 1) k_M_cloth 0 0 18 [some (.ref 95), some (.int x1), o2] [] (mk vi vl) post :=
  wr_aload_n (q := 0) (by decide +kernel) rfl rfl <|
  wr_iconst (n := 1) (v := (1 : Int32)) (by decide +kernel) (by decide) <|
  wr_invV (a := 95) (ci := 4) (mid2 := 119) (idx := 69) (b1 := 0) (b2 := 0) (c1 := 0) (c2 := 0) (as := [.int (1 : Int32)]) (st := []) pl_119 rfl (Nat.le_of_ble_eq_true rfl) rfl rfl lq_95 sq_95 (by decide) rfl lm_M_69 im_119 is_119 (by decide +kernel) k1
theorem b_M_cloth_23 {X : aX} {d : Nat} {post : aO} {vi : Nat → Nat → Int32} {vl : Nat → Nat → Int64} {x1 y0 : Int32} {o2 : Option Value} (k1 : post (some (.int y0)) (mk vi vl)) : wp X (d + 1) k_M_cloth 0 0 23 [some (.ref 95), some (.int x1), o2] [.int y0] (mk vi vl) post :=
  wr_ret (r := some (.int y0)) (Or.inr (Or.inl ⟨_, rfl, (by decide +kernel), (Or.inl rfl)⟩)) k1
theorem b_M_cloth_24 {X : aX} {d : Nat} {post : aO} {vi : Nat → Nat → Int32} {vl : Nat → Nat → Int64} {x1 : Int32} {o2 : Option Value} (k1 : CallOk X d 0 0 k_M_faultOf [.ref 95, .int x1] (mk vi vl) (fun r N' => wp X (d + 1) k_M_cloth 0 0 29 [some (.ref 95), some (.int x1), o2] (pR r []) N' post)) : wp X (d + 1) k_M_cloth 0 0 24 [some (.ref 95), some (.int x1), o2] [] (mk vi vl) post :=
  wr_aload_n (q := 0) (by decide +kernel) rfl rfl <|
  wr_iload_n (q := 1) (by decide +kernel) rfl rfl <|
  wr_invV (a := 95) (ci := 4) (mid2 := 132) (idx := 120) (b1 := 0) (b2 := 0) (c1 := 0) (c2 := 0) (as := [.int x1]) (st := []) pl_132 rfl (Nat.le_of_ble_eq_true rfl) rfl rfl lq_95 sq_95 (by decide) rfl lm_M_120 im_132 is_132 (by decide +kernel) k1
theorem b_M_cloth_29 {X : aX} {d : Nat} {post : aO} {vi : Nat → Nat → Int32} {vl : Nat → Nat → Int64} {x1 y0 : Int32} {o2 : Option Value} (k1 : y0 = (-9 : Int32) → wp X (d + 1) k_M_cloth 0 0 37 [some (.ref 95), some (.int x1), o2] [] (mk vi vl) post) (k2 : ¬ y0 = (-9 : Int32) → wp X (d + 1) k_M_cloth 0 0 34 [some (.ref 95), some (.int x1), o2] [] (mk vi vl) post) : wp X (d + 1) k_M_cloth 0 0 29 [some (.ref 95), some (.int x1), o2] [.int y0] (mk vi vl) post :=
  wr_bipush (n := -9) (v := (-9 : Int32)) (by decide +kernel) (by decide) <|
  wr_icmp_eq (off := 6) (t := 37) (by decide +kernel) (by decide) k1 k2
theorem b_M_cloth_34 {X : aX} {d : Nat} {post : aO} {vi : Nat → Nat → Int32} {vl : Nat → Nat → Int64} {x1 : Int32} {o2 : Option Value} (k1 : post (some (.int (-4 : Int32))) (mk vi vl)) : wp X (d + 1) k_M_cloth 0 0 34 [some (.ref 95), some (.int x1), o2] [] (mk vi vl) post :=
  wr_bipush (n := -4) (v := (-4 : Int32)) (by decide +kernel) (by decide) <|
  wr_ret (r := some (.int (-4 : Int32))) (Or.inr (Or.inl ⟨_, rfl, (by decide +kernel), (Or.inl rfl)⟩)) k1
theorem b_M_cloth_37 {X : aX} {d : Nat} {post : aO} {vi : Nat → Nat → Int32} {vl : Nat → Nat → Int64} {x1 : Int32} {o2 : Option Value} (k1 : CallOk X d 0 0 k_M_copyAll [.ref 95, .int (5904 : Int32), .int (0 : Int32), .int (36 : Int32)] (mk vi vl) (fun r N' => wp X (d + 1) k_M_cloth 0 0 47 [some (.ref 95), some (.int x1), o2] (pR r []) N' post)) : wp X (d + 1) k_M_cloth 0 0 37 [some (.ref 95), some (.int x1), o2] [] (mk vi vl) post :=
  wr_aload_n (q := 0) (by decide +kernel) rfl rfl <|
  wr_sipush (n := 5904) (v := (5904 : Int32)) (by decide +kernel) (by decide) <|
  wr_iconst (n := 0) (v := (0 : Int32)) (by decide +kernel) (by decide) <|
  wr_bipush (n := 36) (v := (36 : Int32)) (by decide +kernel) (by decide) <|
  wr_invV (a := 95) (ci := 4) (mid2 := 141) (idx := 123) (b1 := 0) (b2 := 0) (c1 := 0) (c2 := 0) (as := [.int (5904 : Int32), .int (0 : Int32), .int (36 : Int32)]) (st := []) pl_141 rfl (Nat.le_of_ble_eq_true rfl) rfl rfl lq_95 sq_95 (by decide) rfl lm_M_123 im_141 is_141 (by decide +kernel) k1
theorem b_M_cloth_47 {X : aX} {d : Nat} {post : aO} {vi : Nat → Nat → Int32} {vl : Nat → Nat → Int64} {x1 : Int32} {o2 : Option Value} (k1 : ∀ w, w = up2 vi 95 1 (0 : Int32) → wp X (d + 1) k_M_cloth 0 0 52 [some (.ref 95), some (.int x1), o2] [] (mk w vl) post) : wp X (d + 1) k_M_cloth 0 0 47 [some (.ref 95), some (.int x1), o2] [] (mk vi vl) post :=
  wr_aload_n (q := 0) (by decide +kernel) rfl rfl <|
  wr_iconst (n := 0) (v := (0 : Int32)) (by decide +kernel) (by decide) <|
  wr_putI (ci := 4) (k0 := 1) (idx := 127) lq_95 sq_95 (by decide) (by decide) lf_M_127 rfl (by decide +kernel) <|
  k1 _ rfl
theorem b_M_cloth_52 {X : aX} {d : Nat} {post : aO} {vi : Nat → Nat → Int32} {vl : Nat → Nat → Int64} {x1 : Int32} {o2 : Option Value} (k1 : wp X (d + 1) k_M_cloth 0 0 54 [some (.ref 95), some (.int x1), some (.int (0 : Int32))] [] (mk vi vl) post) : wp X (d + 1) k_M_cloth 0 0 52 [some (.ref 95), some (.int x1), o2] [] (mk vi vl) post :=
  wr_iconst (n := 0) (v := (0 : Int32)) (by decide +kernel) (by decide) <|
  wr_istore_n (q := 2) (by decide +kernel) rfl (by decide) <|
  k1
theorem b_M_cloth_54 {X : aX} {d : Nat} {post : aO} {vi : Nat → Nat → Int32} {vl : Nat → Nat → Int64} {x1 x2 : Int32} (k1 : (3 : Int32) ≤ x2 → wp X (d + 1) k_M_cloth 0 0 72 [some (.ref 95), some (.int x1), some (.int x2)] [] (mk vi vl) post) (k2 : ¬ (3 : Int32) ≤ x2 → wp X (d + 1) k_M_cloth 0 0 59 [some (.ref 95), some (.int x1), some (.int x2)] [] (mk vi vl) post) : wp X (d + 1) k_M_cloth 0 0 54 [some (.ref 95), some (.int x1), some (.int x2)] [] (mk vi vl) post :=
  wr_iload_n (q := 2) (by decide +kernel) rfl rfl <|
  wr_iconst (n := 3) (v := (3 : Int32)) (by decide +kernel) (by decide) <|
  wr_icmp_ge (off := 16) (t := 72) (by decide +kernel) (by decide) k1 k2
theorem b_M_cloth_59 {X : aX} {d : Nat} {post : aO} {vi : Nat → Nat → Int32} {vl : Nat → Nat → Int64} {x1 x2 : Int32} (q1 : vp_in x2 3) (k1 : ∀ w, w = up2 vi 97 x2.toNatClampNeg (-1 : Int32) → wp X (d + 1) k_M_cloth 0 0 66 [some (.ref 95), some (.int x1), some (.int x2)] [] (mk w vl) post) : wp X (d + 1) k_M_cloth 0 0 59 [some (.ref 95), some (.int x1), some (.int x2)] [] (mk vi vl) post :=
  wr_aload_n (q := 0) (by decide +kernel) rfl rfl <|
  wr_getR2 (b := 97) (ci := 4) (k0 := 2) (idx := 13) lq_95 sq_95 (by decide) (by decide) lf_M_13 rfl vq_95_2 lq_97 (by decide +kernel) <|
  wr_iload_n (q := 2) (by decide +kernel) rfl rfl <|
  wr_iconst (n := -1) (v := (-1 : Int32)) (by decide +kernel) (by decide) <|
  wr_iast lq_97 sq_97 q1 (by decide +kernel) <|
  k1 _ rfl
theorem b_M_cloth_66 {X : aX} {d : Nat} {post : aO} {vi : Nat → Nat → Int32} {vl : Nat → Nat → Int64} {x1 x2 : Int32} (k1 : wp X (d + 1) k_M_cloth 0 0 54 [some (.ref 95), some (.int x1), some (.int (x2 + (1 : Int32)))] [] (mk vi vl) post) : wp X (d + 1) k_M_cloth 0 0 66 [some (.ref 95), some (.int x1), some (.int x2)] [] (mk vi vl) post :=
  wr_iinc (i := 2) (n := 1) (v := (1 : Int32)) (by decide +kernel) rfl (by decide) (by decide) <|
  wr_goto (off := -15) (t := 54) (by decide +kernel) (by decide) k1
theorem b_M_cloth_72 {X : aX} {d : Nat} {post : aO} {vi : Nat → Nat → Int32} {vl : Nat → Nat → Int64} {x1 x2 : Int32} (k1 : post (some (.int (vi 96 0))) (mk vi vl)) : wp X (d + 1) k_M_cloth 0 0 72 [some (.ref 95), some (.int x1), some (.int x2)] [] (mk vi vl) post :=
  wr_aload_n (q := 0) (by decide +kernel) rfl rfl <|
  wr_getR2 (b := 96) (ci := 4) (k0 := 0) (idx := 7) lq_95 sq_95 (by decide) (by decide) lf_M_7 rfl vq_95_0 lq_96 (by decide +kernel) <|
  wr_iconst (n := 0) (v := (0 : Int32)) (by decide +kernel) (by decide) <|
  wr_iald lq_96 sq_96 (by unfold vp_in; decide) (by decide +kernel) <|
  wr_ret (r := some (.int (vi 96 0))) (Or.inr (Or.inl ⟨_, rfl, (by decide +kernel), (Or.inl rfl)⟩)) k1
theorem b_M_copyAll_0 {X : aX} {d : Nat} {post : aO} {vi : Nat → Nat → Int32} {vl : Nat → Nat → Int64} {x1 x2 x3 : Int32} (k1 : wp X (d + 1) k_M_copyAll 0 0 3 [some (.ref 95), some (.int x1), some (.int x2), some (.int x3), some (.int (0 : Int32))] [] (mk vi vl) post) : wp X (d + 1) k_M_copyAll 0 0 0 [some (.ref 95), some (.int x1), some (.int x2), some (.int x3), none] [] (mk vi vl) post :=
  wr_iconst (n := 0) (v := (0 : Int32)) (by decide +kernel) (by decide) <|
  wr_istore (i := 4) (by decide +kernel) (by decide) <|
  k1
theorem b_M_copyAll_3 {X : aX} {d : Nat} {post : aO} {vi : Nat → Nat → Int32} {vl : Nat → Nat → Int64} {x1 x2 x3 x4 : Int32} (k1 : x3 ≤ x4 → wp X (d + 1) k_M_copyAll 0 0 33 [some (.ref 95), some (.int x1), some (.int x2), some (.int x3), some (.int x4)] [] (mk vi vl) post) (k2 : ¬ x3 ≤ x4 → wp X (d + 1) k_M_copyAll 0 0 9 [some (.ref 95), some (.int x1), some (.int x2), some (.int x3), some (.int x4)] [] (mk vi vl) post) : wp X (d + 1) k_M_copyAll 0 0 3 [some (.ref 95), some (.int x1), some (.int x2), some (.int x3), some (.int x4)] [] (mk vi vl) post :=
  wr_iload (i := 4) (by decide +kernel) rfl <|
  wr_iload_n (q := 3) (by decide +kernel) rfl rfl <|
  wr_icmp_ge (off := 27) (t := 33) (by decide +kernel) (by decide) k1 k2
theorem b_M_copyAll_9 {X : aX} {d : Nat} {post : aO} {vi : Nat → Nat → Int32} {vl : Nat → Nat → Int64} {x1 x2 x3 x4 : Int32} (q1 : vp_in (x1 + x4) 5976) (q2 : vp_in (x2 + x4) 5976) (k1 : ∀ w, w = up2 vi 96 (x2 + x4).toNatClampNeg (vi 96 (x1 + x4).toNatClampNeg) → wp X (d + 1) k_M_copyAll 0 0 27 [some (.ref 95), some (.int x1), some (.int x2), some (.int x3), some (.int x4)] [] (mk w vl) post) : wp X (d + 1) k_M_copyAll 0 0 9 [some (.ref 95), some (.int x1), some (.int x2), some (.int x3), some (.int x4)] [] (mk vi vl) post :=
  wr_aload_n (q := 0) (by decide +kernel) rfl rfl <|
  wr_getR2 (b := 96) (ci := 4) (k0 := 0) (idx := 7) lq_95 sq_95 (by decide) (by decide) lf_M_7 rfl vq_95_0 lq_96 (by decide +kernel) <|
  wr_iload_n (q := 2) (by decide +kernel) rfl rfl <|
  wr_iload (i := 4) (by decide +kernel) rfl <|
  wr_iadd (by decide +kernel) <|
  wr_aload_n (q := 0) (by decide +kernel) rfl rfl <|
  wr_getR2 (b := 96) (ci := 4) (k0 := 0) (idx := 7) lq_95 sq_95 (by decide) (by decide) lf_M_7 rfl vq_95_0 lq_96 (by decide +kernel) <|
  wr_iload_n (q := 1) (by decide +kernel) rfl rfl <|
  wr_iload (i := 4) (by decide +kernel) rfl <|
  wr_iadd (by decide +kernel) <|
  wr_iald lq_96 sq_96 q1 (by decide +kernel) <|
  wr_iast lq_96 sq_96 q2 (by decide +kernel) <|
  k1 _ rfl
theorem b_M_copyAll_27 {X : aX} {d : Nat} {post : aO} {vi : Nat → Nat → Int32} {vl : Nat → Nat → Int64} {x1 x2 x3 x4 : Int32} (k1 : wp X (d + 1) k_M_copyAll 0 0 3 [some (.ref 95), some (.int x1), some (.int x2), some (.int x3), some (.int (x4 + (1 : Int32)))] [] (mk vi vl) post) : wp X (d + 1) k_M_copyAll 0 0 27 [some (.ref 95), some (.int x1), some (.int x2), some (.int x3), some (.int x4)] [] (mk vi vl) post :=
  wr_iinc (i := 4) (n := 1) (v := (1 : Int32)) (by decide +kernel) rfl (by decide) (by decide) <|
  wr_goto (off := -27) (t := 3) (by decide +kernel) (by decide) k1
theorem b_M_copyAll_33 {X : aX} {d : Nat} {post : aO} {vi : Nat → Nat → Int32} {vl : Nat → Nat → Int64} {x1 x2 x3 x4 : Int32} (k1 : post none (mk vi vl)) : wp X (d + 1) k_M_copyAll 0 0 33 [some (.ref 95), some (.int x1), some (.int x2), some (.int x3), some (.int x4)] [] (mk vi vl) post :=
  wr_ret (r := none) (Or.inl ⟨rfl, (by decide +kernel), rfl⟩) k1
theorem b_M_year_0 {X : aX} {d : Nat} {post : aO} {vi : Nat → Nat → Int32} {vl : Nat → Nat → Int64} {x1 x2 : Int32} (k1 : CallOk X d 0 0 k_M_isYear [.ref 95, .int x1] (mk vi vl) (fun r N' => wp X (d + 1) k_M_year 0 0 5 [some (.ref 95), some (.int x1), some (.int x2)] (pR r []) N' post)) : wp X (d + 1) k_M_year 0 0 0 [some (.ref 95), some (.int x1), some (.int x2)] [] (mk vi vl) post :=
  wr_aload_n (q := 0) (by decide +kernel) rfl rfl <|
  wr_iload_n (q := 1) (by decide +kernel) rfl rfl <|
  wr_invV (a := 95) (ci := 4) (mid2 := 143) (idx := 151) (b1 := 0) (b2 := 0) (c1 := 0) (c2 := 0) (as := [.int x1]) (st := []) pl_143 rfl (Nat.le_of_ble_eq_true rfl) rfl rfl lq_95 sq_95 (by decide) rfl lm_M_151 im_143 is_143 (by decide +kernel) k1
theorem b_M_year_5 {X : aX} {d : Nat} {post : aO} {vi : Nat → Nat → Int32} {vl : Nat → Nat → Int64} {x1 x2 y0 : Int32} (k1 : y0 = 0 → wp X (d + 1) k_M_year 0 0 20 [some (.ref 95), some (.int x1), some (.int x2)] [] (mk vi vl) post) (k2 : ¬ y0 = 0 → wp X (d + 1) k_M_year 0 0 8 [some (.ref 95), some (.int x1), some (.int x2)] [] (mk vi vl) post) : wp X (d + 1) k_M_year 0 0 5 [some (.ref 95), some (.int x1), some (.int x2)] [.int y0] (mk vi vl) post :=
  wr_if_eq (off := 15) (t := 20) (by decide +kernel) (by decide) k1 k2
theorem b_M_year_8 {X : aX} {d : Nat} {post : aO} {vi : Nat → Nat → Int32} {vl : Nat → Nat → Int64} {x1 x2 : Int32} (k1 : CallOk X d 0 0 k_M_in [.long x2.toInt64, .long (0 : Int64), .long (2 : Int64)] (mk vi vl) (fun r N' => wp X (d + 1) k_M_year 0 0 17 [some (.ref 95), some (.int x1), some (.int x2)] (pR r []) N' post)) : wp X (d + 1) k_M_year 0 0 8 [some (.ref 95), some (.int x1), some (.int x2)] [] (mk vi vl) post :=
  wr_iload_n (q := 2) (by decide +kernel) rfl rfl <|
  wr_i2l (by decide +kernel) <|
  wr_lconst (n := 0) (v := (0 : Int64)) (by decide +kernel) (by decide) <|
  wr_ldc2 (i := 154) (v := (2 : Int64)) (by decide +kernel) lj_M_154 <|
  wr_invS (mid2 := 118) (idx := 59) (b1 := 0) (b2 := 0) (c1 := 0) (c2 := 0) (as := [.long x2.toInt64, .long (0 : Int64), .long (2 : Int64)]) (st := []) pl_118 rfl (Nat.le_of_ble_eq_true rfl) rfl rfl lm_M_59 it_118 (by decide +kernel) k1
theorem b_M_year_17 {X : aX} {d : Nat} {post : aO} {vi : Nat → Nat → Int32} {vl : Nat → Nat → Int64} {x1 x2 y0 : Int32} (k1 : ¬ y0 = 0 → wp X (d + 1) k_M_year 0 0 22 [some (.ref 95), some (.int x1), some (.int x2)] [] (mk vi vl) post) (k2 : y0 = 0 → wp X (d + 1) k_M_year 0 0 20 [some (.ref 95), some (.int x1), some (.int x2)] [] (mk vi vl) post) : wp X (d + 1) k_M_year 0 0 17 [some (.ref 95), some (.int x1), some (.int x2)] [.int y0] (mk vi vl) post :=
  wr_if_ne (off := 5) (t := 22) (by decide +kernel) (by decide) k1 k2
theorem b_M_year_20 {X : aX} {d : Nat} {post : aO} {vi : Nat → Nat → Int32} {vl : Nat → Nat → Int64} {x1 x2 : Int32} (k1 : post (some (.int (-1 : Int32))) (mk vi vl)) : wp X (d + 1) k_M_year 0 0 20 [some (.ref 95), some (.int x1), some (.int x2)] [] (mk vi vl) post :=
  wr_iconst (n := -1) (v := (-1 : Int32)) (by decide +kernel) (by decide) <|
  wr_ret (r := some (.int (-1 : Int32))) (Or.inr (Or.inl ⟨_, rfl, (by decide +kernel), (Or.inl rfl)⟩)) k1
theorem b_M_year_22 {X : aX} {d : Nat} {post : aO} {vi : Nat → Nat → Int32} {vl : Nat → Nat → Int64} {x1 x2 : Int32} (k1 : CallOk X d 0 0 k_M_plays [.ref 95] (mk vi vl) (fun r N' => wp X (d + 1) k_M_year 0 0 26 [some (.ref 95), some (.int x1), some (.int x2)] (pR r []) N' post)) : wp X (d + 1) k_M_year 0 0 22 [some (.ref 95), some (.int x1), some (.int x2)] [] (mk vi vl) post :=
  wr_aload_n (q := 0) (by decide +kernel) rfl rfl <|
  wr_invV (a := 95) (ci := 4) (mid2 := 144) (idx := 145) (b1 := 0) (b2 := 0) (c1 := 0) (c2 := 0) (as := []) (st := []) pl_144 rfl (Nat.le_of_ble_eq_true rfl) rfl rfl lq_95 sq_95 (by decide) rfl lm_M_145 im_144 is_144 (by decide +kernel) k1
theorem b_M_year_26 {X : aX} {d : Nat} {post : aO} {vi : Nat → Nat → Int32} {vl : Nat → Nat → Int64} {x1 x2 : Int32} (k1 : CallOk X d 0 0 k_M_yearTells [.ref 95, .int x1, .int x2] (mk vi vl) (fun r N' => wp X (d + 1) k_M_year 0 0 33 [some (.ref 95), some (.int x1), some (.int x2)] (pR r [.ref 95]) N' post)) : wp X (d + 1) k_M_year 0 0 26 [some (.ref 95), some (.int x1), some (.int x2)] [] (mk vi vl) post :=
  wr_aload_n (q := 0) (by decide +kernel) rfl rfl <|
  wr_aload_n (q := 0) (by decide +kernel) rfl rfl <|
  wr_iload_n (q := 1) (by decide +kernel) rfl rfl <|
  wr_iload_n (q := 2) (by decide +kernel) rfl rfl <|
  wr_invV (a := 95) (ci := 4) (mid2 := 147) (idx := 156) (b1 := 0) (b2 := 0) (c1 := 0) (c2 := 0) (as := [.int x1, .int x2]) (st := [.ref 95]) pl_147 rfl (Nat.le_of_ble_eq_true rfl) rfl rfl lq_95 sq_95 (by decide) rfl lm_M_156 im_147 is_147 (by decide +kernel) k1
theorem b_M_year_33 {X : aX} {d : Nat} {post : aO} {vi : Nat → Nat → Int32} {vl : Nat → Nat → Int64} {x1 x2 y1 : Int32} (k1 : CallOk X d 0 0 k_M_tells [.ref 95, .int y1, .int (1 : Int32)] (mk vi vl) (fun r N' => wp X (d + 1) k_M_year 0 0 37 [some (.ref 95), some (.int x1), some (.int x2)] (pR r []) N' post)) : wp X (d + 1) k_M_year 0 0 33 [some (.ref 95), some (.int x1), some (.int x2)] [.int y1, .ref 95] (mk vi vl) post :=
  wr_iconst (n := 1) (v := (1 : Int32)) (by decide +kernel) (by decide) <|
  wr_invV (a := 95) (ci := 4) (mid2 := 123) (idx := 81) (b1 := 0) (b2 := 0) (c1 := 0) (c2 := 0) (as := [.int y1, .int (1 : Int32)]) (st := []) pl_123 rfl (Nat.le_of_ble_eq_true rfl) rfl rfl lq_95 sq_95 (by decide) rfl lm_M_81 im_123 is_123 (by decide +kernel) k1
theorem b_M_year_37 {X : aX} {d : Nat} {post : aO} {vi : Nat → Nat → Int32} {vl : Nat → Nat → Int64} {x1 x2 y0 : Int32} (k1 : post (some (.int y0)) (mk vi vl)) : wp X (d + 1) k_M_year 0 0 37 [some (.ref 95), some (.int x1), some (.int x2)] [.int y0] (mk vi vl) post :=
  wr_ret (r := some (.int y0)) (Or.inr (Or.inl ⟨_, rfl, (by decide +kernel), (Or.inl rfl)⟩)) k1
theorem b_M_isYear_0 {X : aX} {d : Nat} {post : aO} {vi : Nat → Nat → Int32} {vl : Nat → Nat → Int64} {x1 : Int32} (k1 : CallOk X d 0 0 k_M_in [.long x1.toInt64, .long (0 : Int64), .long (((vi 96 0) - (1 : Int32)).toInt64)] (mk vi vl) (fun r N' => wp X (d + 1) k_M_isYear 0 0 15 [some (.ref 95), some (.int x1)] (pR r []) N' post)) : wp X (d + 1) k_M_isYear 0 0 0 [some (.ref 95), some (.int x1)] [] (mk vi vl) post :=
  wr_iload_n (q := 1) (by decide +kernel) rfl rfl <|
  wr_i2l (by decide +kernel) <|
  wr_lconst (n := 0) (v := (0 : Int64)) (by decide +kernel) (by decide) <|
  wr_aload_n (q := 0) (by decide +kernel) rfl rfl <|
  wr_getR2 (b := 96) (ci := 4) (k0 := 0) (idx := 7) lq_95 sq_95 (by decide) (by decide) lf_M_7 rfl vq_95_0 lq_96 (by decide +kernel) <|
  wr_iconst (n := 0) (v := (0 : Int32)) (by decide +kernel) (by decide) <|
  wr_iald lq_96 sq_96 (by unfold vp_in; decide) (by decide +kernel) <|
  wr_iconst (n := 1) (v := (1 : Int32)) (by decide +kernel) (by decide) <|
  wr_isub (by decide +kernel) <|
  wr_i2l (by decide +kernel) <|
  wr_invS (mid2 := 118) (idx := 59) (b1 := 0) (b2 := 0) (c1 := 0) (c2 := 0) (as := [.long x1.toInt64, .long (0 : Int64), .long (((vi 96 0) - (1 : Int32)).toInt64)]) (st := []) pl_118 rfl (Nat.le_of_ble_eq_true rfl) rfl rfl lm_M_59 it_118 (by decide +kernel) k1
theorem b_M_isYear_15 {X : aX} {d : Nat} {post : aO} {vi : Nat → Nat → Int32} {vl : Nat → Nat → Int64} {x1 y0 : Int32} (q1 : y0 = 0 ∨ y0 = 1) (k1 : post (some (.int y0)) (mk vi vl)) : wp X (d + 1) k_M_isYear 0 0 15 [some (.ref 95), some (.int x1)] [.int y0] (mk vi vl) post :=
  wr_ret (r := some (.int y0)) (Or.inr (Or.inl ⟨_, rfl, (by decide +kernel), (Or.inr ⟨rfl, q1⟩)⟩)) k1
theorem b_M_plays_0 {X : aX} {d : Nat} {post : aO} {vi : Nat → Nat → Int32} {vl : Nat → Nat → Int64}  (k1 : wp X (d + 1) k_M_plays 0 0 2 [some (.ref 95), some (.int (0 : Int32)), none, none, none, none] [] (mk vi vl) post) : wp X (d + 1) k_M_plays 0 0 0 [some (.ref 95), none, none, none, none, none] [] (mk vi vl) post :=
  wr_iconst (n := 0) (v := (0 : Int32)) (by decide +kernel) (by decide) <|
  wr_istore_n (q := 1) (by decide +kernel) rfl (by decide) <|
  k1
theorem b_M_plays_2 {X : aX} {d : Nat} {post : aO} {vi : Nat → Nat → Int32} {vl : Nat → Nat → Int64} {x1 : Int32} {o2 o3 o4 o5 : Option Value} (k1 : (vi 96 0) ≤ x1 → wp X (d + 1) k_M_plays 0 0 213 [some (.ref 95), some (.int x1), o2, o3, o4, o5] [] (mk vi vl) post) (k2 : ¬ (vi 96 0) ≤ x1 → wp X (d + 1) k_M_plays 0 0 12 [some (.ref 95), some (.int x1), o2, o3, o4, o5] [] (mk vi vl) post) : wp X (d + 1) k_M_plays 0 0 2 [some (.ref 95), some (.int x1), o2, o3, o4, o5] [] (mk vi vl) post :=
  wr_iload_n (q := 1) (by decide +kernel) rfl rfl <|
  wr_aload_n (q := 0) (by decide +kernel) rfl rfl <|
  wr_getR2 (b := 96) (ci := 4) (k0 := 0) (idx := 7) lq_95 sq_95 (by decide) (by decide) lf_M_7 rfl vq_95_0 lq_96 (by decide +kernel) <|
  wr_iconst (n := 0) (v := (0 : Int32)) (by decide +kernel) (by decide) <|
  wr_iald lq_96 sq_96 (by unfold vp_in; decide) (by decide +kernel) <|
  wr_icmp_ge (off := 204) (t := 213) (by decide +kernel) (by decide) k1 k2
theorem b_M_plays_12 {X : aX} {d : Nat} {post : aO} {vi : Nat → Nat → Int32} {vl : Nat → Nat → Int64} {x1 : Int32} {o2 o3 o4 o5 : Option Value} (k1 : wp X (d + 1) k_M_plays 0 0 24 [some (.ref 95), some (.int x1), some (.int (-9 : Int32)), some (.int ((vi 96 1) - (1 : Int32))), o4, o5] [] (mk vi vl) post) : wp X (d + 1) k_M_plays 0 0 12 [some (.ref 95), some (.int x1), o2, o3, o4, o5] [] (mk vi vl) post :=
  wr_bipush (n := -9) (v := (-9 : Int32)) (by decide +kernel) (by decide) <|
  wr_istore_n (q := 2) (by decide +kernel) rfl (by decide) <|
  wr_aload_n (q := 0) (by decide +kernel) rfl rfl <|
  wr_getR2 (b := 96) (ci := 4) (k0 := 0) (idx := 7) lq_95 sq_95 (by decide) (by decide) lf_M_7 rfl vq_95_0 lq_96 (by decide +kernel) <|
  wr_iconst (n := 1) (v := (1 : Int32)) (by decide +kernel) (by decide) <|
  wr_iald lq_96 sq_96 (by unfold vp_in; decide) (by decide +kernel) <|
  wr_iconst (n := 1) (v := (1 : Int32)) (by decide +kernel) (by decide) <|
  wr_isub (by decide +kernel) <|
  wr_istore_n (q := 3) (by decide +kernel) rfl (by decide) <|
  k1
theorem b_M_plays_24 {X : aX} {d : Nat} {post : aO} {vi : Nat → Nat → Int32} {vl : Nat → Nat → Int64} {x1 x2 x3 : Int32} {o4 o5 : Option Value} (k1 : x3 < 0 → wp X (d + 1) k_M_plays 0 0 150 [some (.ref 95), some (.int x1), some (.int x2), some (.int x3), o4, o5] [] (mk vi vl) post) (k2 : ¬ x3 < 0 → wp X (d + 1) k_M_plays 0 0 28 [some (.ref 95), some (.int x1), some (.int x2), some (.int x3), o4, o5] [] (mk vi vl) post) : wp X (d + 1) k_M_plays 0 0 24 [some (.ref 95), some (.int x1), some (.int x2), some (.int x3), o4, o5] [] (mk vi vl) post :=
  wr_iload_n (q := 3) (by decide +kernel) rfl rfl <|
  wr_if_lt (off := 125) (t := 150) (by decide +kernel) (by decide) k1 k2
theorem b_M_plays_28 {X : aX} {d : Nat} {post : aO} {vi : Nat → Nat → Int32} {vl : Nat → Nat → Int64} {x1 x2 x3 : Int32} {o4 o5 : Option Value} (q1 : vp_in ((2 : Int32) + x1) 5976) (k1 : (vi 96 ((2 : Int32) + x1).toNatClampNeg) = (1 : Int32) → wp X (d + 1) k_M_plays 0 0 150 [some (.ref 95), some (.int x1), some (.int x2), some (.int x3), o4, o5] [] (mk vi vl) post) (k2 : ¬ (vi 96 ((2 : Int32) + x1).toNatClampNeg) = (1 : Int32) → wp X (d + 1) k_M_plays 0 0 40 [some (.ref 95), some (.int x1), some (.int x2), some (.int x3), o4, o5] [] (mk vi vl) post) : wp X (d + 1) k_M_plays 0 0 28 [some (.ref 95), some (.int x1), some (.int x2), some (.int x3), o4, o5] [] (mk vi vl) post :=
  wr_aload_n (q := 0) (by decide +kernel) rfl rfl <|
  wr_getR2 (b := 96) (ci := 4) (k0 := 0) (idx := 7) lq_95 sq_95 (by decide) (by decide) lf_M_7 rfl vq_95_0 lq_96 (by decide +kernel) <|
  wr_iconst (n := 2) (v := (2 : Int32)) (by decide +kernel) (by decide) <|
  wr_iload_n (q := 1) (by decide +kernel) rfl rfl <|
  wr_iadd (by decide +kernel) <|
  wr_iald lq_96 sq_96 q1 (by decide +kernel) <|
  wr_iconst (n := 1) (v := (1 : Int32)) (by decide +kernel) (by decide) <|
  wr_icmp_eq (off := 113) (t := 150) (by decide +kernel) (by decide) k1 k2
theorem b_M_plays_40 {X : aX} {d : Nat} {post : aO} {vi : Nat → Nat → Int32} {vl : Nat → Nat → Int64} {x1 x2 x3 : Int32} {o4 o5 : Option Value} (q1 : vp_in ((2 : Int32) + x1) 5976) (k1 : ¬ (vi 96 ((2 : Int32) + x1).toNatClampNeg) = (2 : Int32) → wp X (d + 1) k_M_plays 0 0 90 [some (.ref 95), some (.int x1), some (.int x2), some (.int x3), o4, o5] [] (mk vi vl) post) (k2 : (vi 96 ((2 : Int32) + x1).toNatClampNeg) = (2 : Int32) → wp X (d + 1) k_M_plays 0 0 52 [some (.ref 95), some (.int x1), some (.int x2), some (.int x3), o4, o5] [] (mk vi vl) post) : wp X (d + 1) k_M_plays 0 0 40 [some (.ref 95), some (.int x1), some (.int x2), some (.int x3), o4, o5] [] (mk vi vl) post :=
  wr_aload_n (q := 0) (by decide +kernel) rfl rfl <|
  wr_getR2 (b := 96) (ci := 4) (k0 := 0) (idx := 7) lq_95 sq_95 (by decide) (by decide) lf_M_7 rfl vq_95_0 lq_96 (by decide +kernel) <|
  wr_iconst (n := 2) (v := (2 : Int32)) (by decide +kernel) (by decide) <|
  wr_iload_n (q := 1) (by decide +kernel) rfl rfl <|
  wr_iadd (by decide +kernel) <|
  wr_iald lq_96 sq_96 q1 (by decide +kernel) <|
  wr_iconst (n := 2) (v := (2 : Int32)) (by decide +kernel) (by decide) <|
  wr_icmp_ne (off := 41) (t := 90) (by decide +kernel) (by decide) k1 k2
theorem b_M_plays_52 {X : aX} {d : Nat} {post : aO} {vi : Nat → Nat → Int32} {vl : Nat → Nat → Int64} {x1 x2 x3 : Int32} {o4 o5 : Option Value} (q1 : vp_in ((12 : Int32) + x3) 5976) (k1 : ¬ (vi 96 ((12 : Int32) + x3).toNatClampNeg) = (2 : Int32) → wp X (d + 1) k_M_plays 0 0 90 [some (.ref 95), some (.int x1), some (.int x2), some (.int x3), o4, o5] [] (mk vi vl) post) (k2 : (vi 96 ((12 : Int32) + x3).toNatClampNeg) = (2 : Int32) → wp X (d + 1) k_M_plays 0 0 65 [some (.ref 95), some (.int x1), some (.int x2), some (.int x3), o4, o5] [] (mk vi vl) post) : wp X (d + 1) k_M_plays 0 0 52 [some (.ref 95), some (.int x1), some (.int x2), some (.int x3), o4, o5] [] (mk vi vl) post :=
  wr_aload_n (q := 0) (by decide +kernel) rfl rfl <|
  wr_getR2 (b := 96) (ci := 4) (k0 := 0) (idx := 7) lq_95 sq_95 (by decide) (by decide) lf_M_7 rfl vq_95_0 lq_96 (by decide +kernel) <|
  wr_bipush (n := 12) (v := (12 : Int32)) (by decide +kernel) (by decide) <|
  wr_iload_n (q := 3) (by decide +kernel) rfl rfl <|
  wr_iadd (by decide +kernel) <|
  wr_iald lq_96 sq_96 q1 (by decide +kernel) <|
  wr_iconst (n := 2) (v := (2 : Int32)) (by decide +kernel) (by decide) <|
  wr_icmp_ne (off := 28) (t := 90) (by decide +kernel) (by decide) k1 k2
theorem b_M_plays_65 {X : aX} {d : Nat} {post : aO} {vi : Nat → Nat → Int32} {vl : Nat → Nat → Int64} {x1 x2 x3 : Int32} {o4 o5 : Option Value} (q1 : vp_in ((20 : Int32) + x3) 5976) (q2 : vp_in ((7 : Int32) + x1) 5976) (k1 : ¬ (vi 96 ((20 : Int32) + x3).toNatClampNeg) = (vi 96 ((7 : Int32) + x1).toNatClampNeg) → wp X (d + 1) k_M_plays 0 0 90 [some (.ref 95), some (.int x1), some (.int x2), some (.int x3), o4, o5] [] (mk vi vl) post) (k2 : (vi 96 ((20 : Int32) + x3).toNatClampNeg) = (vi 96 ((7 : Int32) + x1).toNatClampNeg) → wp X (d + 1) k_M_plays 0 0 86 [some (.ref 95), some (.int x1), some (.int x2), some (.int x3), o4, o5] [] (mk vi vl) post) : wp X (d + 1) k_M_plays 0 0 65 [some (.ref 95), some (.int x1), some (.int x2), some (.int x3), o4, o5] [] (mk vi vl) post :=
  wr_aload_n (q := 0) (by decide +kernel) rfl rfl <|
  wr_getR2 (b := 96) (ci := 4) (k0 := 0) (idx := 7) lq_95 sq_95 (by decide) (by decide) lf_M_7 rfl vq_95_0 lq_96 (by decide +kernel) <|
  wr_bipush (n := 20) (v := (20 : Int32)) (by decide +kernel) (by decide) <|
  wr_iload_n (q := 3) (by decide +kernel) rfl rfl <|
  wr_iadd (by decide +kernel) <|
  wr_iald lq_96 sq_96 q1 (by decide +kernel) <|
  wr_aload_n (q := 0) (by decide +kernel) rfl rfl <|
  wr_getR2 (b := 96) (ci := 4) (k0 := 0) (idx := 7) lq_95 sq_95 (by decide) (by decide) lf_M_7 rfl vq_95_0 lq_96 (by decide +kernel) <|
  wr_bipush (n := 7) (v := (7 : Int32)) (by decide +kernel) (by decide) <|
  wr_iload_n (q := 1) (by decide +kernel) rfl rfl <|
  wr_iadd (by decide +kernel) <|
  wr_iald lq_96 sq_96 q2 (by decide +kernel) <|
  wr_icmp_ne (off := 7) (t := 90) (by decide +kernel) (by decide) k1 k2
theorem b_M_plays_86 {X : aX} {d : Nat} {post : aO} {vi : Nat → Nat → Int32} {vl : Nat → Nat → Int64} {x1 x2 x3 : Int32} {o4 o5 : Option Value} (k1 : wp X (d + 1) k_M_plays 0 0 91 [some (.ref 95), some (.int x1), some (.int x2), some (.int x3), o4, o5] [.int (1 : Int32)] (mk vi vl) post) : wp X (d + 1) k_M_plays 0 0 86 [some (.ref 95), some (.int x1), some (.int x2), some (.int x3), o4, o5] [] (mk vi vl) post :=
  wr_iconst (n := 1) (v := (1 : Int32)) (by decide +kernel) (by decide) <|
  wr_goto (off := 4) (t := 91) (by decide +kernel) (by decide) k1
theorem b_M_plays_90 {X : aX} {d : Nat} {post : aO} {vi : Nat → Nat → Int32} {vl : Nat → Nat → Int64} {x1 x2 x3 : Int32} {o4 o5 : Option Value} (k1 : wp X (d + 1) k_M_plays 0 0 91 [some (.ref 95), some (.int x1), some (.int x2), some (.int x3), o4, o5] [.int (0 : Int32)] (mk vi vl) post) : wp X (d + 1) k_M_plays 0 0 90 [some (.ref 95), some (.int x1), some (.int x2), some (.int x3), o4, o5] [] (mk vi vl) post :=
  wr_iconst (n := 0) (v := (0 : Int32)) (by decide +kernel) (by decide) <|
  k1
theorem b_M_plays_91 {X : aX} {d : Nat} {post : aO} {vi : Nat → Nat → Int32} {vl : Nat → Nat → Int64} {x1 x2 x3 y0 : Int32} {o4 o5 : Option Value} (k1 : ¬ y0 = 0 → wp X (d + 1) k_M_plays 0 0 118 [some (.ref 95), some (.int x1), some (.int x2), some (.int x3), some (.int y0), o5] [] (mk vi vl) post) (k2 : y0 = 0 → wp X (d + 1) k_M_plays 0 0 98 [some (.ref 95), some (.int x1), some (.int x2), some (.int x3), some (.int y0), o5] [] (mk vi vl) post) : wp X (d + 1) k_M_plays 0 0 91 [some (.ref 95), some (.int x1), some (.int x2), some (.int x3), o4, o5] [.int y0] (mk vi vl) post :=
  wr_istore (i := 4) (by decide +kernel) (by decide) <|
  wr_iload (i := 4) (by decide +kernel) rfl <|
  wr_if_ne (off := 23) (t := 118) (by decide +kernel) (by decide) k1 k2
theorem b_M_plays_98 {X : aX} {d : Nat} {post : aO} {vi : Nat → Nat → Int32} {vl : Nat → Nat → Int64} {x1 x2 x3 x4 : Int32} {o5 : Option Value} (q1 : vp_in ((2 : Int32) + x1) 5976) (k1 : ¬ (vi 96 ((2 : Int32) + x1).toNatClampNeg) = 0 → wp X (d + 1) k_M_plays 0 0 122 [some (.ref 95), some (.int x1), some (.int x2), some (.int x3), some (.int x4), o5] [] (mk vi vl) post) (k2 : (vi 96 ((2 : Int32) + x1).toNatClampNeg) = 0 → wp X (d + 1) k_M_plays 0 0 109 [some (.ref 95), some (.int x1), some (.int x2), some (.int x3), some (.int x4), o5] [] (mk vi vl) post) : wp X (d + 1) k_M_plays 0 0 98 [some (.ref 95), some (.int x1), some (.int x2), some (.int x3), some (.int x4), o5] [] (mk vi vl) post :=
  wr_aload_n (q := 0) (by decide +kernel) rfl rfl <|
  wr_getR2 (b := 96) (ci := 4) (k0 := 0) (idx := 7) lq_95 sq_95 (by decide) (by decide) lf_M_7 rfl vq_95_0 lq_96 (by decide +kernel) <|
  wr_iconst (n := 2) (v := (2 : Int32)) (by decide +kernel) (by decide) <|
  wr_iload_n (q := 1) (by decide +kernel) rfl rfl <|
  wr_iadd (by decide +kernel) <|
  wr_iald lq_96 sq_96 q1 (by decide +kernel) <|
  wr_if_ne (off := 16) (t := 122) (by decide +kernel) (by decide) k1 k2
theorem b_M_plays_109 {X : aX} {d : Nat} {post : aO} {vi : Nat → Nat → Int32} {vl : Nat → Nat → Int64} {x1 x2 x3 x4 : Int32} {o5 : Option Value} (k1 : CallOk X d 0 0 k_M_holds [.ref 95, .int x3, .int x1] (mk vi vl) (fun r N' => wp X (d + 1) k_M_plays 0 0 115 [some (.ref 95), some (.int x1), some (.int x2), some (.int x3), some (.int x4), o5] (pR r []) N' post)) : wp X (d + 1) k_M_plays 0 0 109 [some (.ref 95), some (.int x1), some (.int x2), some (.int x3), some (.int x4), o5] [] (mk vi vl) post :=
  wr_aload_n (q := 0) (by decide +kernel) rfl rfl <|
  wr_iload_n (q := 3) (by decide +kernel) rfl rfl <|
  wr_iload_n (q := 1) (by decide +kernel) rfl rfl <|
  wr_invV (a := 95) (ci := 4) (mid2 := 145) (idx := 135) (b1 := 0) (b2 := 0) (c1 := 0) (c2 := 0) (as := [.int x3, .int x1]) (st := []) pl_145 rfl (Nat.le_of_ble_eq_true rfl) rfl rfl lq_95 sq_95 (by decide) rfl lm_M_135 im_145 is_145 (by decide +kernel) k1
theorem b_M_plays_115 {X : aX} {d : Nat} {post : aO} {vi : Nat → Nat → Int32} {vl : Nat → Nat → Int64} {x1 x2 x3 x4 y0 : Int32} {o5 : Option Value} (k1 : y0 = 0 → wp X (d + 1) k_M_plays 0 0 122 [some (.ref 95), some (.int x1), some (.int x2), some (.int x3), some (.int x4), o5] [] (mk vi vl) post) (k2 : ¬ y0 = 0 → wp X (d + 1) k_M_plays 0 0 118 [some (.ref 95), some (.int x1), some (.int x2), some (.int x3), some (.int x4), o5] [] (mk vi vl) post) : wp X (d + 1) k_M_plays 0 0 115 [some (.ref 95), some (.int x1), some (.int x2), some (.int x3), some (.int x4), o5] [.int y0] (mk vi vl) post :=
  wr_if_eq (off := 7) (t := 122) (by decide +kernel) (by decide) k1 k2
theorem b_M_plays_118 {X : aX} {d : Nat} {post : aO} {vi : Nat → Nat → Int32} {vl : Nat → Nat → Int64} {x1 x2 x3 x4 : Int32} {o5 : Option Value} (k1 : wp X (d + 1) k_M_plays 0 0 123 [some (.ref 95), some (.int x1), some (.int x2), some (.int x3), some (.int x4), o5] [.int (1 : Int32)] (mk vi vl) post) : wp X (d + 1) k_M_plays 0 0 118 [some (.ref 95), some (.int x1), some (.int x2), some (.int x3), some (.int x4), o5] [] (mk vi vl) post :=
  wr_iconst (n := 1) (v := (1 : Int32)) (by decide +kernel) (by decide) <|
  wr_goto (off := 4) (t := 123) (by decide +kernel) (by decide) k1
theorem b_M_plays_122 {X : aX} {d : Nat} {post : aO} {vi : Nat → Nat → Int32} {vl : Nat → Nat → Int64} {x1 x2 x3 x4 : Int32} {o5 : Option Value} (k1 : wp X (d + 1) k_M_plays 0 0 123 [some (.ref 95), some (.int x1), some (.int x2), some (.int x3), some (.int x4), o5] [.int (0 : Int32)] (mk vi vl) post) : wp X (d + 1) k_M_plays 0 0 122 [some (.ref 95), some (.int x1), some (.int x2), some (.int x3), some (.int x4), o5] [] (mk vi vl) post :=
  wr_iconst (n := 0) (v := (0 : Int32)) (by decide +kernel) (by decide) <|
  k1
theorem b_M_plays_123 {X : aX} {d : Nat} {post : aO} {vi : Nat → Nat → Int32} {vl : Nat → Nat → Int64} {x1 x2 x3 x4 y0 : Int32} {o5 : Option Value} (k1 : y0 = 0 → wp X (d + 1) k_M_plays 0 0 142 [some (.ref 95), some (.int x1), some (.int x2), some (.int x3), some (.int x4), some (.int y0)] [] (mk vi vl) post) (k2 : ¬ y0 = 0 → wp X (d + 1) k_M_plays 0 0 130 [some (.ref 95), some (.int x1), some (.int x2), some (.int x3), some (.int x4), some (.int y0)] [] (mk vi vl) post) : wp X (d + 1) k_M_plays 0 0 123 [some (.ref 95), some (.int x1), some (.int x2), some (.int x3), some (.int x4), o5] [.int y0] (mk vi vl) post :=
  wr_istore (i := 5) (by decide +kernel) (by decide) <|
  wr_iload (i := 5) (by decide +kernel) rfl <|
  wr_if_eq (off := 15) (t := 142) (by decide +kernel) (by decide) k1 k2
theorem b_M_plays_130 {X : aX} {d : Nat} {post : aO} {vi : Nat → Nat → Int32} {vl : Nat → Nat → Int64} {x1 x2 x3 x4 x5 : Int32} (k1 : x3 = (vi 95 16) → wp X (d + 1) k_M_plays 0 0 142 [some (.ref 95), some (.int x1), some (.int x2), some (.int x3), some (.int x4), some (.int x5)] [] (mk vi vl) post) (k2 : ¬ x3 = (vi 95 16) → wp X (d + 1) k_M_plays 0 0 138 [some (.ref 95), some (.int x1), some (.int x2), some (.int x3), some (.int x4), some (.int x5)] [] (mk vi vl) post) : wp X (d + 1) k_M_plays 0 0 130 [some (.ref 95), some (.int x1), some (.int x2), some (.int x3), some (.int x4), some (.int x5)] [] (mk vi vl) post :=
  wr_iload_n (q := 3) (by decide +kernel) rfl rfl <|
  wr_aload_n (q := 0) (by decide +kernel) rfl rfl <|
  wr_getI (ci := 4) (k0 := 16) (idx := 44) lq_95 sq_95 (by decide) (by decide) lf_M_44 (Or.inl rfl) (by decide +kernel) <|
  wr_icmp_eq (off := 7) (t := 142) (by decide +kernel) (by decide) k1 k2
theorem b_M_plays_138 {X : aX} {d : Nat} {post : aO} {vi : Nat → Nat → Int32} {vl : Nat → Nat → Int64} {x1 x2 x3 x4 x5 : Int32} (k1 : wp X (d + 1) k_M_plays 0 0 143 [some (.ref 95), some (.int x1), some (.int x2), some (.int x3), some (.int x4), some (.int x5)] [.int x3] (mk vi vl) post) : wp X (d + 1) k_M_plays 0 0 138 [some (.ref 95), some (.int x1), some (.int x2), some (.int x3), some (.int x4), some (.int x5)] [] (mk vi vl) post :=
  wr_iload_n (q := 3) (by decide +kernel) rfl rfl <|
  wr_goto (off := 4) (t := 143) (by decide +kernel) (by decide) k1
theorem b_M_plays_142 {X : aX} {d : Nat} {post : aO} {vi : Nat → Nat → Int32} {vl : Nat → Nat → Int64} {x1 x2 x3 x4 x5 : Int32} (k1 : wp X (d + 1) k_M_plays 0 0 143 [some (.ref 95), some (.int x1), some (.int x2), some (.int x3), some (.int x4), some (.int x5)] [.int x2] (mk vi vl) post) : wp X (d + 1) k_M_plays 0 0 142 [some (.ref 95), some (.int x1), some (.int x2), some (.int x3), some (.int x4), some (.int x5)] [] (mk vi vl) post :=
  wr_iload_n (q := 2) (by decide +kernel) rfl rfl <|
  k1
theorem b_M_plays_143 {X : aX} {d : Nat} {post : aO} {vi : Nat → Nat → Int32} {vl : Nat → Nat → Int64} {x1 x2 x3 x4 x5 y0 : Int32} (k1 : wp X (d + 1) k_M_plays 0 0 24 [some (.ref 95), some (.int x1), some (.int y0), some (.int (x3 + (-1 : Int32))), some (.int x4), some (.int x5)] [] (mk vi vl) post) : wp X (d + 1) k_M_plays 0 0 143 [some (.ref 95), some (.int x1), some (.int x2), some (.int x3), some (.int x4), some (.int x5)] [.int y0] (mk vi vl) post :=
  wr_istore_n (q := 2) (by decide +kernel) rfl (by decide) <|
  wr_iinc (i := 3) (n := -1) (v := (-1 : Int32)) (by decide +kernel) rfl (by decide) (by decide) <|
  wr_goto (off := -123) (t := 24) (by decide +kernel) (by decide) k1
theorem b_M_plays_150 {X : aX} {d : Nat} {post : aO} {vi : Nat → Nat → Int32} {vl : Nat → Nat → Int64} {x1 x2 x3 : Int32} {o4 o5 : Option Value} (q1 : vp_in x1 5) (k1 : ∀ w, w = up2 vi 105 x1.toNatClampNeg x2 → wp X (d + 1) k_M_plays 0 0 157 [some (.ref 95), some (.int x1), some (.int x2), some (.int x3), o4, o5] [] (mk w vl) post) : wp X (d + 1) k_M_plays 0 0 150 [some (.ref 95), some (.int x1), some (.int x2), some (.int x3), o4, o5] [] (mk vi vl) post :=
  wr_aload_n (q := 0) (by decide +kernel) rfl rfl <|
  wr_getR2 (b := 105) (ci := 4) (k0 := 15) (idx := 41) lq_95 sq_95 (by decide) (by decide) lf_M_41 rfl vq_95_15 lq_105 (by decide +kernel) <|
  wr_iload_n (q := 1) (by decide +kernel) rfl rfl <|
  wr_iload_n (q := 2) (by decide +kernel) rfl rfl <|
  wr_iast lq_105 sq_105 q1 (by decide +kernel) <|
  k1 _ rfl
theorem b_M_plays_157 {X : aX} {d : Nat} {post : aO} {vi : Nat → Nat → Int32} {vl : Nat → Nat → Int64} {x1 x2 x3 : Int32} {o4 o5 : Option Value} (q1 : vp_in ((2 : Int32) + x1) 5976) (k1 : ¬ (vi 96 ((2 : Int32) + x1).toNatClampNeg) = (1 : Int32) → wp X (d + 1) k_M_plays 0 0 186 [some (.ref 95), some (.int x1), some (.int x2), some (.int x3), o4, o5] [.int x1, .ref 104] (mk vi vl) post) (k2 : (vi 96 ((2 : Int32) + x1).toNatClampNeg) = (1 : Int32) → wp X (d + 1) k_M_plays 0 0 174 [some (.ref 95), some (.int x1), some (.int x2), some (.int x3), o4, o5] [.int x1, .ref 104] (mk vi vl) post) : wp X (d + 1) k_M_plays 0 0 157 [some (.ref 95), some (.int x1), some (.int x2), some (.int x3), o4, o5] [] (mk vi vl) post :=
  wr_aload_n (q := 0) (by decide +kernel) rfl rfl <|
  wr_getR2 (b := 104) (ci := 4) (k0 := 14) (idx := 38) lq_95 sq_95 (by decide) (by decide) lf_M_38 rfl vq_95_14 lq_104 (by decide +kernel) <|
  wr_iload_n (q := 1) (by decide +kernel) rfl rfl <|
  wr_aload_n (q := 0) (by decide +kernel) rfl rfl <|
  wr_getR2 (b := 96) (ci := 4) (k0 := 0) (idx := 7) lq_95 sq_95 (by decide) (by decide) lf_M_7 rfl vq_95_0 lq_96 (by decide +kernel) <|
  wr_iconst (n := 2) (v := (2 : Int32)) (by decide +kernel) (by decide) <|
  wr_iload_n (q := 1) (by decide +kernel) rfl rfl <|
  wr_iadd (by decide +kernel) <|
  wr_iald lq_96 sq_96 q1 (by decide +kernel) <|
  wr_iconst (n := 1) (v := (1 : Int32)) (by decide +kernel) (by decide) <|
  wr_icmp_ne (off := 15) (t := 186) (by decide +kernel) (by decide) k1 k2
theorem b_M_plays_174 {X : aX} {d : Nat} {post : aO} {vi : Nat → Nat → Int32} {vl : Nat → Nat → Int64} {x1 x2 x3 y1 : Int32} {o4 o5 : Option Value} (q1 : vp_in ((7 : Int32) + x1) 5976) (k1 : wp X (d + 1) k_M_plays 0 0 206 [some (.ref 95), some (.int x1), some (.int x2), some (.int x3), o4, o5] [.int (vi 96 ((7 : Int32) + x1).toNatClampNeg), .int y1, .ref 104] (mk vi vl) post) : wp X (d + 1) k_M_plays 0 0 174 [some (.ref 95), some (.int x1), some (.int x2), some (.int x3), o4, o5] [.int y1, .ref 104] (mk vi vl) post :=
  wr_aload_n (q := 0) (by decide +kernel) rfl rfl <|
  wr_getR2 (b := 96) (ci := 4) (k0 := 0) (idx := 7) lq_95 sq_95 (by decide) (by decide) lf_M_7 rfl vq_95_0 lq_96 (by decide +kernel) <|
  wr_bipush (n := 7) (v := (7 : Int32)) (by decide +kernel) (by decide) <|
  wr_iload_n (q := 1) (by decide +kernel) rfl rfl <|
  wr_iadd (by decide +kernel) <|
  wr_iald lq_96 sq_96 q1 (by decide +kernel) <|
  wr_goto (off := 23) (t := 206) (by decide +kernel) (by decide) k1
theorem b_M_plays_186 {X : aX} {d : Nat} {post : aO} {vi : Nat → Nat → Int32} {vl : Nat → Nat → Int64} {x1 x2 x3 y1 : Int32} {o4 o5 : Option Value} (k1 : ¬ x2 = (-9 : Int32) → wp X (d + 1) k_M_plays 0 0 197 [some (.ref 95), some (.int x1), some (.int x2), some (.int x3), o4, o5] [.int y1, .ref 104] (mk vi vl) post) (k2 : x2 = (-9 : Int32) → wp X (d + 1) k_M_plays 0 0 192 [some (.ref 95), some (.int x1), some (.int x2), some (.int x3), o4, o5] [.int y1, .ref 104] (mk vi vl) post) : wp X (d + 1) k_M_plays 0 0 186 [some (.ref 95), some (.int x1), some (.int x2), some (.int x3), o4, o5] [.int y1, .ref 104] (mk vi vl) post :=
  wr_iload_n (q := 2) (by decide +kernel) rfl rfl <|
  wr_bipush (n := -9) (v := (-9 : Int32)) (by decide +kernel) (by decide) <|
  wr_icmp_ne (off := 8) (t := 197) (by decide +kernel) (by decide) k1 k2
theorem b_M_plays_192 {X : aX} {d : Nat} {post : aO} {vi : Nat → Nat → Int32} {vl : Nat → Nat → Int64} {x1 x2 x3 y1 : Int32} {o4 o5 : Option Value} (k1 : wp X (d + 1) k_M_plays 0 0 206 [some (.ref 95), some (.int x1), some (.int x2), some (.int x3), o4, o5] [.int (-9 : Int32), .int y1, .ref 104] (mk vi vl) post) : wp X (d + 1) k_M_plays 0 0 192 [some (.ref 95), some (.int x1), some (.int x2), some (.int x3), o4, o5] [.int y1, .ref 104] (mk vi vl) post :=
  wr_bipush (n := -9) (v := (-9 : Int32)) (by decide +kernel) (by decide) <|
  wr_goto (off := 12) (t := 206) (by decide +kernel) (by decide) k1
theorem b_M_plays_197 {X : aX} {d : Nat} {post : aO} {vi : Nat → Nat → Int32} {vl : Nat → Nat → Int64} {x1 x2 x3 y1 : Int32} {o4 o5 : Option Value} (q1 : vp_in ((28 : Int32) + x2) 5976) (k1 : wp X (d + 1) k_M_plays 0 0 206 [some (.ref 95), some (.int x1), some (.int x2), some (.int x3), o4, o5] [.int (vi 96 ((28 : Int32) + x2).toNatClampNeg), .int y1, .ref 104] (mk vi vl) post) : wp X (d + 1) k_M_plays 0 0 197 [some (.ref 95), some (.int x1), some (.int x2), some (.int x3), o4, o5] [.int y1, .ref 104] (mk vi vl) post :=
  wr_aload_n (q := 0) (by decide +kernel) rfl rfl <|
  wr_getR2 (b := 96) (ci := 4) (k0 := 0) (idx := 7) lq_95 sq_95 (by decide) (by decide) lf_M_7 rfl vq_95_0 lq_96 (by decide +kernel) <|
  wr_bipush (n := 28) (v := (28 : Int32)) (by decide +kernel) (by decide) <|
  wr_iload_n (q := 2) (by decide +kernel) rfl rfl <|
  wr_iadd (by decide +kernel) <|
  wr_iald lq_96 sq_96 q1 (by decide +kernel) <|
  k1
theorem b_M_plays_206 {X : aX} {d : Nat} {post : aO} {vi : Nat → Nat → Int32} {vl : Nat → Nat → Int64} {x1 x2 x3 y1 y2 : Int32} {o4 o5 : Option Value} (q1 : vp_in y1 5) (k1 : ∀ w, w = up2 vi 104 y1.toNatClampNeg y2 → wp X (d + 1) k_M_plays 0 0 207 [some (.ref 95), some (.int x1), some (.int x2), some (.int x3), o4, o5] [] (mk w vl) post) : wp X (d + 1) k_M_plays 0 0 206 [some (.ref 95), some (.int x1), some (.int x2), some (.int x3), o4, o5] [.int y2, .int y1, .ref 104] (mk vi vl) post :=
  wr_iast lq_104 sq_104 q1 (by decide +kernel) <|
  k1 _ rfl
theorem b_M_plays_207 {X : aX} {d : Nat} {post : aO} {vi : Nat → Nat → Int32} {vl : Nat → Nat → Int64} {x1 x2 x3 : Int32} {o4 o5 : Option Value} (k1 : wp X (d + 1) k_M_plays 0 0 2 [some (.ref 95), some (.int (x1 + (1 : Int32))), some (.int x2), some (.int x3), o4, o5] [] (mk vi vl) post) : wp X (d + 1) k_M_plays 0 0 207 [some (.ref 95), some (.int x1), some (.int x2), some (.int x3), o4, o5] [] (mk vi vl) post :=
  wr_iinc (i := 1) (n := 1) (v := (1 : Int32)) (by decide +kernel) rfl (by decide) (by decide) <|
  wr_goto (off := -208) (t := 2) (by decide +kernel) (by decide) k1
theorem b_M_plays_213 {X : aX} {d : Nat} {post : aO} {vi : Nat → Nat → Int32} {vl : Nat → Nat → Int64} {x1 : Int32} {o2 o3 o4 o5 : Option Value} (k1 : post none (mk vi vl)) : wp X (d + 1) k_M_plays 0 0 213 [some (.ref 95), some (.int x1), o2, o3, o4, o5] [] (mk vi vl) post :=
  wr_ret (r := none) (Or.inl ⟨rfl, (by decide +kernel), rfl⟩) k1
theorem b_M_holds_0 {X : aX} {d : Nat} {post : aO} {vi : Nat → Nat → Int32} {vl : Nat → Nat → Int64} {x1 x2 : Int32} (q1 : vp_in ((20 : Int32) + x1) 5976) (q2 : vp_in ((12 : Int32) + x1) 5976) (k1 : swk (fun t => wp X (d + 1) k_M_holds 0 0 t [some (.ref 95), some (.int x1), some (.int x2), some (.int (vi 96 ((20 : Int32) + x1).toNatClampNeg))] [] (mk vi vl) post) 94 (vi 96 ((12 : Int32) + x1).toNatClampNeg) [((0 : Int32), 52), ((3 : Int32), 60), ((5 : Int32), 68)]) : wp X (d + 1) k_M_holds 0 0 0 [some (.ref 95), some (.int x1), some (.int x2), none] [] (mk vi vl) post :=
  wr_aload_n (q := 0) (by decide +kernel) rfl rfl <|
  wr_getR2 (b := 96) (ci := 4) (k0 := 0) (idx := 7) lq_95 sq_95 (by decide) (by decide) lf_M_7 rfl vq_95_0 lq_96 (by decide +kernel) <|
  wr_bipush (n := 20) (v := (20 : Int32)) (by decide +kernel) (by decide) <|
  wr_iload_n (q := 1) (by decide +kernel) rfl rfl <|
  wr_iadd (by decide +kernel) <|
  wr_iald lq_96 sq_96 q1 (by decide +kernel) <|
  wr_istore_n (q := 3) (by decide +kernel) rfl (by decide) <|
  wr_aload_n (q := 0) (by decide +kernel) rfl rfl <|
  wr_getR2 (b := 96) (ci := 4) (k0 := 0) (idx := 7) lq_95 sq_95 (by decide) (by decide) lf_M_7 rfl vq_95_0 lq_96 (by decide +kernel) <|
  wr_bipush (n := 12) (v := (12 : Int32)) (by decide +kernel) (by decide) <|
  wr_iload_n (q := 1) (by decide +kernel) rfl rfl <|
  wr_iadd (by decide +kernel) <|
  wr_iald lq_96 sq_96 q2 (by decide +kernel) <|
  wr_lsw (dflt := 75) (ps := #[(0, 33), (3, 41), (5, 49)]) (len := 33) (dt := 94) (ts := [((0 : Int32), 52), ((3 : Int32), 60), ((5 : Int32), 68)]) (by decide +kernel) (by decide +kernel) (by decide +kernel) (by decide) k1
theorem b_M_holds_52 {X : aX} {d : Nat} {post : aO} {vi : Nat → Nat → Int32} {vl : Nat → Nat → Int64} {x1 x2 x3 : Int32} (k1 : CallOk X d 0 0 k_M_happenedAhead [.ref 95, .int x2, .int (1 : Int32), .int x3] (mk vi vl) (fun r N' => wp X (d + 1) k_M_holds 0 0 59 [some (.ref 95), some (.int x1), some (.int x2), some (.int x3)] (pR r []) N' post)) : wp X (d + 1) k_M_holds 0 0 52 [some (.ref 95), some (.int x1), some (.int x2), some (.int x3)] [] (mk vi vl) post :=
  wr_aload_n (q := 0) (by decide +kernel) rfl rfl <|
  wr_iload_n (q := 2) (by decide +kernel) rfl rfl <|
  wr_iconst (n := 1) (v := (1 : Int32)) (by decide +kernel) (by decide) <|
  wr_iload_n (q := 3) (by decide +kernel) rfl rfl <|
  wr_invV (a := 95) (ci := 4) (mid2 := 146) (idx := 132) (b1 := 0) (b2 := 0) (c1 := 0) (c2 := 0) (as := [.int x2, .int (1 : Int32), .int x3]) (st := []) pl_146 rfl (Nat.le_of_ble_eq_true rfl) rfl rfl lq_95 sq_95 (by decide) rfl lm_M_132 im_146 is_146 (by decide +kernel) k1
theorem b_M_holds_59 {X : aX} {d : Nat} {post : aO} {vi : Nat → Nat → Int32} {vl : Nat → Nat → Int64} {x1 x2 x3 y0 : Int32} (q1 : y0 = 0 ∨ y0 = 1) (k1 : post (some (.int y0)) (mk vi vl)) : wp X (d + 1) k_M_holds 0 0 59 [some (.ref 95), some (.int x1), some (.int x2), some (.int x3)] [.int y0] (mk vi vl) post :=
  wr_ret (r := some (.int y0)) (Or.inr (Or.inl ⟨_, rfl, (by decide +kernel), (Or.inr ⟨rfl, q1⟩)⟩)) k1
theorem b_M_holds_60 {X : aX} {d : Nat} {post : aO} {vi : Nat → Nat → Int32} {vl : Nat → Nat → Int64} {x1 x2 x3 : Int32} (k1 : CallOk X d 0 0 k_M_happenedAhead [.ref 95, .int x2, .int (2 : Int32), .int x3] (mk vi vl) (fun r N' => wp X (d + 1) k_M_holds 0 0 67 [some (.ref 95), some (.int x1), some (.int x2), some (.int x3)] (pR r []) N' post)) : wp X (d + 1) k_M_holds 0 0 60 [some (.ref 95), some (.int x1), some (.int x2), some (.int x3)] [] (mk vi vl) post :=
  wr_aload_n (q := 0) (by decide +kernel) rfl rfl <|
  wr_iload_n (q := 2) (by decide +kernel) rfl rfl <|
  wr_iconst (n := 2) (v := (2 : Int32)) (by decide +kernel) (by decide) <|
  wr_iload_n (q := 3) (by decide +kernel) rfl rfl <|
  wr_invV (a := 95) (ci := 4) (mid2 := 146) (idx := 132) (b1 := 0) (b2 := 0) (c1 := 0) (c2 := 0) (as := [.int x2, .int (2 : Int32), .int x3]) (st := []) pl_146 rfl (Nat.le_of_ble_eq_true rfl) rfl rfl lq_95 sq_95 (by decide) rfl lm_M_132 im_146 is_146 (by decide +kernel) k1
theorem b_M_holds_67 {X : aX} {d : Nat} {post : aO} {vi : Nat → Nat → Int32} {vl : Nat → Nat → Int64} {x1 x2 x3 y0 : Int32} (q1 : y0 = 0 ∨ y0 = 1) (k1 : post (some (.int y0)) (mk vi vl)) : wp X (d + 1) k_M_holds 0 0 67 [some (.ref 95), some (.int x1), some (.int x2), some (.int x3)] [.int y0] (mk vi vl) post :=
  wr_ret (r := some (.int y0)) (Or.inr (Or.inl ⟨_, rfl, (by decide +kernel), (Or.inr ⟨rfl, q1⟩)⟩)) k1
theorem b_M_holds_68 {X : aX} {d : Nat} {post : aO} {vi : Nat → Nat → Int32} {vl : Nat → Nat → Int64} {x1 x2 x3 : Int32} (k1 : CallOk X d 0 0 k_M_happenedAhead [.ref 95, .int x2, .int (1 : Int32), .int x3] (mk vi vl) (fun r N' => wp X (d + 1) k_M_holds 0 0 75 [some (.ref 95), some (.int x1), some (.int x2), some (.int x3)] (pR r []) N' post)) : wp X (d + 1) k_M_holds 0 0 68 [some (.ref 95), some (.int x1), some (.int x2), some (.int x3)] [] (mk vi vl) post :=
  wr_aload_n (q := 0) (by decide +kernel) rfl rfl <|
  wr_iload_n (q := 2) (by decide +kernel) rfl rfl <|
  wr_iconst (n := 1) (v := (1 : Int32)) (by decide +kernel) (by decide) <|
  wr_iload_n (q := 3) (by decide +kernel) rfl rfl <|
  wr_invV (a := 95) (ci := 4) (mid2 := 146) (idx := 132) (b1 := 0) (b2 := 0) (c1 := 0) (c2 := 0) (as := [.int x2, .int (1 : Int32), .int x3]) (st := []) pl_146 rfl (Nat.le_of_ble_eq_true rfl) rfl rfl lq_95 sq_95 (by decide) rfl lm_M_132 im_146 is_146 (by decide +kernel) k1
theorem b_M_holds_75 {X : aX} {d : Nat} {post : aO} {vi : Nat → Nat → Int32} {vl : Nat → Nat → Int64} {x1 x2 x3 y0 : Int32} (k1 : ¬ y0 = 0 → wp X (d + 1) k_M_holds 0 0 88 [some (.ref 95), some (.int x1), some (.int x2), some (.int x3)] [] (mk vi vl) post) (k2 : y0 = 0 → wp X (d + 1) k_M_holds 0 0 78 [some (.ref 95), some (.int x1), some (.int x2), some (.int x3)] [] (mk vi vl) post) : wp X (d + 1) k_M_holds 0 0 75 [some (.ref 95), some (.int x1), some (.int x2), some (.int x3)] [.int y0] (mk vi vl) post :=
  wr_if_ne (off := 13) (t := 88) (by decide +kernel) (by decide) k1 k2
theorem b_M_holds_78 {X : aX} {d : Nat} {post : aO} {vi : Nat → Nat → Int32} {vl : Nat → Nat → Int64} {x1 x2 x3 : Int32} (k1 : CallOk X d 0 0 k_M_happenedAhead [.ref 95, .int x2, .int (2 : Int32), .int x3] (mk vi vl) (fun r N' => wp X (d + 1) k_M_holds 0 0 85 [some (.ref 95), some (.int x1), some (.int x2), some (.int x3)] (pR r []) N' post)) : wp X (d + 1) k_M_holds 0 0 78 [some (.ref 95), some (.int x1), some (.int x2), some (.int x3)] [] (mk vi vl) post :=
  wr_aload_n (q := 0) (by decide +kernel) rfl rfl <|
  wr_iload_n (q := 2) (by decide +kernel) rfl rfl <|
  wr_iconst (n := 2) (v := (2 : Int32)) (by decide +kernel) (by decide) <|
  wr_iload_n (q := 3) (by decide +kernel) rfl rfl <|
  wr_invV (a := 95) (ci := 4) (mid2 := 146) (idx := 132) (b1 := 0) (b2 := 0) (c1 := 0) (c2 := 0) (as := [.int x2, .int (2 : Int32), .int x3]) (st := []) pl_146 rfl (Nat.le_of_ble_eq_true rfl) rfl rfl lq_95 sq_95 (by decide) rfl lm_M_132 im_146 is_146 (by decide +kernel) k1
theorem b_M_holds_85 {X : aX} {d : Nat} {post : aO} {vi : Nat → Nat → Int32} {vl : Nat → Nat → Int64} {x1 x2 x3 y0 : Int32} (k1 : y0 = 0 → wp X (d + 1) k_M_holds 0 0 92 [some (.ref 95), some (.int x1), some (.int x2), some (.int x3)] [] (mk vi vl) post) (k2 : ¬ y0 = 0 → wp X (d + 1) k_M_holds 0 0 88 [some (.ref 95), some (.int x1), some (.int x2), some (.int x3)] [] (mk vi vl) post) : wp X (d + 1) k_M_holds 0 0 85 [some (.ref 95), some (.int x1), some (.int x2), some (.int x3)] [.int y0] (mk vi vl) post :=
  wr_if_eq (off := 7) (t := 92) (by decide +kernel) (by decide) k1 k2
theorem b_M_holds_88 {X : aX} {d : Nat} {post : aO} {vi : Nat → Nat → Int32} {vl : Nat → Nat → Int64} {x1 x2 x3 : Int32} (k1 : wp X (d + 1) k_M_holds 0 0 93 [some (.ref 95), some (.int x1), some (.int x2), some (.int x3)] [.int (1 : Int32)] (mk vi vl) post) : wp X (d + 1) k_M_holds 0 0 88 [some (.ref 95), some (.int x1), some (.int x2), some (.int x3)] [] (mk vi vl) post :=
  wr_iconst (n := 1) (v := (1 : Int32)) (by decide +kernel) (by decide) <|
  wr_goto (off := 4) (t := 93) (by decide +kernel) (by decide) k1
theorem b_M_holds_92 {X : aX} {d : Nat} {post : aO} {vi : Nat → Nat → Int32} {vl : Nat → Nat → Int64} {x1 x2 x3 : Int32} (k1 : wp X (d + 1) k_M_holds 0 0 93 [some (.ref 95), some (.int x1), some (.int x2), some (.int x3)] [.int (0 : Int32)] (mk vi vl) post) : wp X (d + 1) k_M_holds 0 0 92 [some (.ref 95), some (.int x1), some (.int x2), some (.int x3)] [] (mk vi vl) post :=
  wr_iconst (n := 0) (v := (0 : Int32)) (by decide +kernel) (by decide) <|
  k1
theorem b_M_holds_93 {X : aX} {d : Nat} {post : aO} {vi : Nat → Nat → Int32} {vl : Nat → Nat → Int64} {x1 x2 x3 y0 : Int32} (q1 : y0 = 0 ∨ y0 = 1) (k1 : post (some (.int y0)) (mk vi vl)) : wp X (d + 1) k_M_holds 0 0 93 [some (.ref 95), some (.int x1), some (.int x2), some (.int x3)] [.int y0] (mk vi vl) post :=
  wr_ret (r := some (.int y0)) (Or.inr (Or.inl ⟨_, rfl, (by decide +kernel), (Or.inr ⟨rfl, q1⟩)⟩)) k1
theorem b_M_holds_94 {X : aX} {d : Nat} {post : aO} {vi : Nat → Nat → Int32} {vl : Nat → Nat → Int64} {x1 x2 x3 : Int32} (k1 : post (some (.int (0 : Int32))) (mk vi vl)) : wp X (d + 1) k_M_holds 0 0 94 [some (.ref 95), some (.int x1), some (.int x2), some (.int x3)] [] (mk vi vl) post :=
  wr_iconst (n := 0) (v := (0 : Int32)) (by decide +kernel) (by decide) <|
  wr_ret (r := some (.int (0 : Int32))) (Or.inr (Or.inl ⟨_, rfl, (by decide +kernel), (Or.inr ⟨rfl, (by decide)⟩)⟩)) k1
theorem b_M_happenedAhead_0 {X : aX} {d : Nat} {post : aO} {vi : Nat → Nat → Int32} {vl : Nat → Nat → Int64} {x1 x2 x3 : Int32} (k1 : x1 < x2 → wp X (d + 1) k_M_happenedAhead 0 0 21 [some (.ref 95), some (.int x1), some (.int x2), some (.int x3)] [] (mk vi vl) post) (k2 : ¬ x1 < x2 → wp X (d + 1) k_M_happenedAhead 0 0 5 [some (.ref 95), some (.int x1), some (.int x2), some (.int x3)] [] (mk vi vl) post) : wp X (d + 1) k_M_happenedAhead 0 0 0 [some (.ref 95), some (.int x1), some (.int x2), some (.int x3)] [] (mk vi vl) post :=
  wr_iload_n (q := 1) (by decide +kernel) rfl rfl <|
  wr_iload_n (q := 2) (by decide +kernel) rfl rfl <|
  wr_icmp_lt (off := 19) (t := 21) (by decide +kernel) (by decide) k1 k2
theorem b_M_happenedAhead_5 {X : aX} {d : Nat} {post : aO} {vi : Nat → Nat → Int32} {vl : Nat → Nat → Int64} {x1 x2 x3 : Int32} (q1 : vp_in (x1 - x2) 5) (k1 : ¬ (vi 104 (x1 - x2).toNatClampNeg) = x3 → wp X (d + 1) k_M_happenedAhead 0 0 21 [some (.ref 95), some (.int x1), some (.int x2), some (.int x3)] [] (mk vi vl) post) (k2 : (vi 104 (x1 - x2).toNatClampNeg) = x3 → wp X (d + 1) k_M_happenedAhead 0 0 17 [some (.ref 95), some (.int x1), some (.int x2), some (.int x3)] [] (mk vi vl) post) : wp X (d + 1) k_M_happenedAhead 0 0 5 [some (.ref 95), some (.int x1), some (.int x2), some (.int x3)] [] (mk vi vl) post :=
  wr_aload_n (q := 0) (by decide +kernel) rfl rfl <|
  wr_getR2 (b := 104) (ci := 4) (k0 := 14) (idx := 38) lq_95 sq_95 (by decide) (by decide) lf_M_38 rfl vq_95_14 lq_104 (by decide +kernel) <|
  wr_iload_n (q := 1) (by decide +kernel) rfl rfl <|
  wr_iload_n (q := 2) (by decide +kernel) rfl rfl <|
  wr_isub (by decide +kernel) <|
  wr_iald lq_104 sq_104 q1 (by decide +kernel) <|
  wr_iload_n (q := 3) (by decide +kernel) rfl rfl <|
  wr_icmp_ne (off := 7) (t := 21) (by decide +kernel) (by decide) k1 k2
theorem b_M_happenedAhead_17 {X : aX} {d : Nat} {post : aO} {vi : Nat → Nat → Int32} {vl : Nat → Nat → Int64} {x1 x2 x3 : Int32} (k1 : wp X (d + 1) k_M_happenedAhead 0 0 22 [some (.ref 95), some (.int x1), some (.int x2), some (.int x3)] [.int (1 : Int32)] (mk vi vl) post) : wp X (d + 1) k_M_happenedAhead 0 0 17 [some (.ref 95), some (.int x1), some (.int x2), some (.int x3)] [] (mk vi vl) post :=
  wr_iconst (n := 1) (v := (1 : Int32)) (by decide +kernel) (by decide) <|
  wr_goto (off := 4) (t := 22) (by decide +kernel) (by decide) k1
theorem b_M_happenedAhead_21 {X : aX} {d : Nat} {post : aO} {vi : Nat → Nat → Int32} {vl : Nat → Nat → Int64} {x1 x2 x3 : Int32} (k1 : wp X (d + 1) k_M_happenedAhead 0 0 22 [some (.ref 95), some (.int x1), some (.int x2), some (.int x3)] [.int (0 : Int32)] (mk vi vl) post) : wp X (d + 1) k_M_happenedAhead 0 0 21 [some (.ref 95), some (.int x1), some (.int x2), some (.int x3)] [] (mk vi vl) post :=
  wr_iconst (n := 0) (v := (0 : Int32)) (by decide +kernel) (by decide) <|
  k1
theorem b_M_happenedAhead_22 {X : aX} {d : Nat} {post : aO} {vi : Nat → Nat → Int32} {vl : Nat → Nat → Int64} {x1 x2 x3 y0 : Int32} (q1 : y0 = 0 ∨ y0 = 1) (k1 : post (some (.int y0)) (mk vi vl)) : wp X (d + 1) k_M_happenedAhead 0 0 22 [some (.ref 95), some (.int x1), some (.int x2), some (.int x3)] [.int y0] (mk vi vl) post :=
  wr_ret (r := some (.int y0)) (Or.inr (Or.inl ⟨_, rfl, (by decide +kernel), (Or.inr ⟨rfl, q1⟩)⟩)) k1
theorem b_M_yearTells_0 {X : aX} {d : Nat} {post : aO} {vi : Nat → Nat → Int32} {vl : Nat → Nat → Int64} {x1 x2 : Int32} (k1 : ¬ x2 = 0 → wp X (d + 1) k_M_yearTells 0 0 15 [some (.ref 95), some (.int x1), some (.int x2)] [] (mk vi vl) post) (k2 : x2 = 0 → wp X (d + 1) k_M_yearTells 0 0 4 [some (.ref 95), some (.int x1), some (.int x2)] [] (mk vi vl) post) : wp X (d + 1) k_M_yearTells 0 0 0 [some (.ref 95), some (.int x1), some (.int x2)] [] (mk vi vl) post :=
  wr_iload_n (q := 2) (by decide +kernel) rfl rfl <|
  wr_if_ne (off := 14) (t := 15) (by decide +kernel) (by decide) k1 k2
theorem b_M_yearTells_4 {X : aX} {d : Nat} {post : aO} {vi : Nat → Nat → Int32} {vl : Nat → Nat → Int64} {x1 x2 : Int32} (q1 : vp_in ((2 : Int32) + x1) 5976) (k1 : wp X (d + 1) k_M_yearTells 0 0 38 [some (.ref 95), some (.int x1), some (.int x2)] [.int (vi 96 ((2 : Int32) + x1).toNatClampNeg)] (mk vi vl) post) : wp X (d + 1) k_M_yearTells 0 0 4 [some (.ref 95), some (.int x1), some (.int x2)] [] (mk vi vl) post :=
  wr_aload_n (q := 0) (by decide +kernel) rfl rfl <|
  wr_getR2 (b := 96) (ci := 4) (k0 := 0) (idx := 7) lq_95 sq_95 (by decide) (by decide) lf_M_7 rfl vq_95_0 lq_96 (by decide +kernel) <|
  wr_iconst (n := 2) (v := (2 : Int32)) (by decide +kernel) (by decide) <|
  wr_iload_n (q := 1) (by decide +kernel) rfl rfl <|
  wr_iadd (by decide +kernel) <|
  wr_iald lq_96 sq_96 q1 (by decide +kernel) <|
  wr_goto (off := 26) (t := 38) (by decide +kernel) (by decide) k1
theorem b_M_yearTells_15 {X : aX} {d : Nat} {post : aO} {vi : Nat → Nat → Int32} {vl : Nat → Nat → Int64} {x1 x2 : Int32} (k1 : ¬ x2 = (1 : Int32) → wp X (d + 1) k_M_yearTells 0 0 32 [some (.ref 95), some (.int x1), some (.int x2)] [] (mk vi vl) post) (k2 : x2 = (1 : Int32) → wp X (d + 1) k_M_yearTells 0 0 20 [some (.ref 95), some (.int x1), some (.int x2)] [] (mk vi vl) post) : wp X (d + 1) k_M_yearTells 0 0 15 [some (.ref 95), some (.int x1), some (.int x2)] [] (mk vi vl) post :=
  wr_iload_n (q := 2) (by decide +kernel) rfl rfl <|
  wr_iconst (n := 1) (v := (1 : Int32)) (by decide +kernel) (by decide) <|
  wr_icmp_ne (off := 15) (t := 32) (by decide +kernel) (by decide) k1 k2
theorem b_M_yearTells_20 {X : aX} {d : Nat} {post : aO} {vi : Nat → Nat → Int32} {vl : Nat → Nat → Int64} {x1 x2 : Int32} (q1 : vp_in ((7 : Int32) + x1) 5976) (k1 : wp X (d + 1) k_M_yearTells 0 0 38 [some (.ref 95), some (.int x1), some (.int x2)] [.int (vi 96 ((7 : Int32) + x1).toNatClampNeg)] (mk vi vl) post) : wp X (d + 1) k_M_yearTells 0 0 20 [some (.ref 95), some (.int x1), some (.int x2)] [] (mk vi vl) post :=
  wr_aload_n (q := 0) (by decide +kernel) rfl rfl <|
  wr_getR2 (b := 96) (ci := 4) (k0 := 0) (idx := 7) lq_95 sq_95 (by decide) (by decide) lf_M_7 rfl vq_95_0 lq_96 (by decide +kernel) <|
  wr_bipush (n := 7) (v := (7 : Int32)) (by decide +kernel) (by decide) <|
  wr_iload_n (q := 1) (by decide +kernel) rfl rfl <|
  wr_iadd (by decide +kernel) <|
  wr_iald lq_96 sq_96 q1 (by decide +kernel) <|
  wr_goto (off := 9) (t := 38) (by decide +kernel) (by decide) k1
theorem b_M_yearTells_32 {X : aX} {d : Nat} {post : aO} {vi : Nat → Nat → Int32} {vl : Nat → Nat → Int64} {x1 x2 : Int32} (q1 : vp_in x1 5) (k1 : wp X (d + 1) k_M_yearTells 0 0 38 [some (.ref 95), some (.int x1), some (.int x2)] [.int (vi 104 x1.toNatClampNeg)] (mk vi vl) post) : wp X (d + 1) k_M_yearTells 0 0 32 [some (.ref 95), some (.int x1), some (.int x2)] [] (mk vi vl) post :=
  wr_aload_n (q := 0) (by decide +kernel) rfl rfl <|
  wr_getR2 (b := 104) (ci := 4) (k0 := 14) (idx := 38) lq_95 sq_95 (by decide) (by decide) lf_M_38 rfl vq_95_14 lq_104 (by decide +kernel) <|
  wr_iload_n (q := 1) (by decide +kernel) rfl rfl <|
  wr_iald lq_104 sq_104 q1 (by decide +kernel) <|
  k1
theorem b_M_yearTells_38 {X : aX} {d : Nat} {post : aO} {vi : Nat → Nat → Int32} {vl : Nat → Nat → Int64} {x1 x2 y0 : Int32} (k1 : post (some (.int y0)) (mk vi vl)) : wp X (d + 1) k_M_yearTells 0 0 38 [some (.ref 95), some (.int x1), some (.int x2)] [.int y0] (mk vi vl) post :=
  wr_ret (r := some (.int y0)) (Or.inr (Or.inl ⟨_, rfl, (by decide +kernel), (Or.inl rfl)⟩)) k1
theorem b_M_law_0 {X : aX} {d : Nat} {post : aO} {vi : Nat → Nat → Int32} {vl : Nat → Nat → Int64} {x1 x2 : Int32} (k1 : CallOk X d 0 0 k_M_isLaw [.ref 95, .int x1] (mk vi vl) (fun r N' => wp X (d + 1) k_M_law 0 0 5 [some (.ref 95), some (.int x1), some (.int x2)] (pR r []) N' post)) : wp X (d + 1) k_M_law 0 0 0 [some (.ref 95), some (.int x1), some (.int x2)] [] (mk vi vl) post :=
  wr_aload_n (q := 0) (by decide +kernel) rfl rfl <|
  wr_iload_n (q := 1) (by decide +kernel) rfl rfl <|
  wr_invV (a := 95) (ci := 4) (mid2 := 149) (idx := 159) (b1 := 0) (b2 := 0) (c1 := 0) (c2 := 0) (as := [.int x1]) (st := []) pl_149 rfl (Nat.le_of_ble_eq_true rfl) rfl rfl lq_95 sq_95 (by decide) rfl lm_M_159 im_149 is_149 (by decide +kernel) k1
theorem b_M_law_5 {X : aX} {d : Nat} {post : aO} {vi : Nat → Nat → Int32} {vl : Nat → Nat → Int64} {x1 x2 y0 : Int32} (k1 : y0 = 0 → wp X (d + 1) k_M_law 0 0 20 [some (.ref 95), some (.int x1), some (.int x2)] [] (mk vi vl) post) (k2 : ¬ y0 = 0 → wp X (d + 1) k_M_law 0 0 8 [some (.ref 95), some (.int x1), some (.int x2)] [] (mk vi vl) post) : wp X (d + 1) k_M_law 0 0 5 [some (.ref 95), some (.int x1), some (.int x2)] [.int y0] (mk vi vl) post :=
  wr_if_eq (off := 15) (t := 20) (by decide +kernel) (by decide) k1 k2
theorem b_M_law_8 {X : aX} {d : Nat} {post : aO} {vi : Nat → Nat → Int32} {vl : Nat → Nat → Int64} {x1 x2 : Int32} (k1 : CallOk X d 0 0 k_M_in [.long x2.toInt64, .long (0 : Int64), .long (3 : Int64)] (mk vi vl) (fun r N' => wp X (d + 1) k_M_law 0 0 17 [some (.ref 95), some (.int x1), some (.int x2)] (pR r []) N' post)) : wp X (d + 1) k_M_law 0 0 8 [some (.ref 95), some (.int x1), some (.int x2)] [] (mk vi vl) post :=
  wr_iload_n (q := 2) (by decide +kernel) rfl rfl <|
  wr_i2l (by decide +kernel) <|
  wr_lconst (n := 0) (v := (0 : Int64)) (by decide +kernel) (by decide) <|
  wr_ldc2 (i := 63) (v := (3 : Int64)) (by decide +kernel) lj_M_63 <|
  wr_invS (mid2 := 118) (idx := 59) (b1 := 0) (b2 := 0) (c1 := 0) (c2 := 0) (as := [.long x2.toInt64, .long (0 : Int64), .long (3 : Int64)]) (st := []) pl_118 rfl (Nat.le_of_ble_eq_true rfl) rfl rfl lm_M_59 it_118 (by decide +kernel) k1
theorem b_M_law_17 {X : aX} {d : Nat} {post : aO} {vi : Nat → Nat → Int32} {vl : Nat → Nat → Int64} {x1 x2 y0 : Int32} (k1 : ¬ y0 = 0 → wp X (d + 1) k_M_law 0 0 22 [some (.ref 95), some (.int x1), some (.int x2)] [] (mk vi vl) post) (k2 : y0 = 0 → wp X (d + 1) k_M_law 0 0 20 [some (.ref 95), some (.int x1), some (.int x2)] [] (mk vi vl) post) : wp X (d + 1) k_M_law 0 0 17 [some (.ref 95), some (.int x1), some (.int x2)] [.int y0] (mk vi vl) post :=
  wr_if_ne (off := 5) (t := 22) (by decide +kernel) (by decide) k1 k2
theorem b_M_law_20 {X : aX} {d : Nat} {post : aO} {vi : Nat → Nat → Int32} {vl : Nat → Nat → Int64} {x1 x2 : Int32} (k1 : post (some (.int (-1 : Int32))) (mk vi vl)) : wp X (d + 1) k_M_law 0 0 20 [some (.ref 95), some (.int x1), some (.int x2)] [] (mk vi vl) post :=
  wr_iconst (n := -1) (v := (-1 : Int32)) (by decide +kernel) (by decide) <|
  wr_ret (r := some (.int (-1 : Int32))) (Or.inr (Or.inl ⟨_, rfl, (by decide +kernel), (Or.inl rfl)⟩)) k1
theorem b_M_law_22 {X : aX} {d : Nat} {post : aO} {vi : Nat → Nat → Int32} {vl : Nat → Nat → Int64} {x1 x2 : Int32} (k1 : CallOk X d 0 0 k_M_plays [.ref 95] (mk vi vl) (fun r N' => wp X (d + 1) k_M_law 0 0 26 [some (.ref 95), some (.int x1), some (.int x2)] (pR r []) N' post)) : wp X (d + 1) k_M_law 0 0 22 [some (.ref 95), some (.int x1), some (.int x2)] [] (mk vi vl) post :=
  wr_aload_n (q := 0) (by decide +kernel) rfl rfl <|
  wr_invV (a := 95) (ci := 4) (mid2 := 144) (idx := 145) (b1 := 0) (b2 := 0) (c1 := 0) (c2 := 0) (as := []) (st := []) pl_144 rfl (Nat.le_of_ble_eq_true rfl) rfl rfl lq_95 sq_95 (by decide) rfl lm_M_145 im_144 is_144 (by decide +kernel) k1
theorem b_M_law_26 {X : aX} {d : Nat} {post : aO} {vi : Nat → Nat → Int32} {vl : Nat → Nat → Int64} {x1 x2 : Int32} (k1 : CallOk X d 0 0 k_M_lawTells [.ref 95, .int x1, .int x2] (mk vi vl) (fun r N' => wp X (d + 1) k_M_law 0 0 33 [some (.ref 95), some (.int x1), some (.int x2)] (pR r [.ref 95]) N' post)) : wp X (d + 1) k_M_law 0 0 26 [some (.ref 95), some (.int x1), some (.int x2)] [] (mk vi vl) post :=
  wr_aload_n (q := 0) (by decide +kernel) rfl rfl <|
  wr_aload_n (q := 0) (by decide +kernel) rfl rfl <|
  wr_iload_n (q := 1) (by decide +kernel) rfl rfl <|
  wr_iload_n (q := 2) (by decide +kernel) rfl rfl <|
  wr_invV (a := 95) (ci := 4) (mid2 := 150) (idx := 162) (b1 := 0) (b2 := 0) (c1 := 0) (c2 := 0) (as := [.int x1, .int x2]) (st := [.ref 95]) pl_150 rfl (Nat.le_of_ble_eq_true rfl) rfl rfl lq_95 sq_95 (by decide) rfl lm_M_162 im_150 is_150 (by decide +kernel) k1
theorem b_M_law_33 {X : aX} {d : Nat} {post : aO} {vi : Nat → Nat → Int32} {vl : Nat → Nat → Int64} {x1 x2 y1 : Int32} (k1 : CallOk X d 0 0 k_M_tells [.ref 95, .int y1, .int (1 : Int32)] (mk vi vl) (fun r N' => wp X (d + 1) k_M_law 0 0 37 [some (.ref 95), some (.int x1), some (.int x2)] (pR r []) N' post)) : wp X (d + 1) k_M_law 0 0 33 [some (.ref 95), some (.int x1), some (.int x2)] [.int y1, .ref 95] (mk vi vl) post :=
  wr_iconst (n := 1) (v := (1 : Int32)) (by decide +kernel) (by decide) <|
  wr_invV (a := 95) (ci := 4) (mid2 := 123) (idx := 81) (b1 := 0) (b2 := 0) (c1 := 0) (c2 := 0) (as := [.int y1, .int (1 : Int32)]) (st := []) pl_123 rfl (Nat.le_of_ble_eq_true rfl) rfl rfl lq_95 sq_95 (by decide) rfl lm_M_81 im_123 is_123 (by decide +kernel) k1
theorem b_M_law_37 {X : aX} {d : Nat} {post : aO} {vi : Nat → Nat → Int32} {vl : Nat → Nat → Int64} {x1 x2 y0 : Int32} (k1 : post (some (.int y0)) (mk vi vl)) : wp X (d + 1) k_M_law 0 0 37 [some (.ref 95), some (.int x1), some (.int x2)] [.int y0] (mk vi vl) post :=
  wr_ret (r := some (.int y0)) (Or.inr (Or.inl ⟨_, rfl, (by decide +kernel), (Or.inl rfl)⟩)) k1
theorem b_M_isLaw_0 {X : aX} {d : Nat} {post : aO} {vi : Nat → Nat → Int32} {vl : Nat → Nat → Int64} {x1 : Int32} (k1 : CallOk X d 0 0 k_M_in [.long x1.toInt64, .long (0 : Int64), .long (((vi 96 1) - (1 : Int32)).toInt64)] (mk vi vl) (fun r N' => wp X (d + 1) k_M_isLaw 0 0 15 [some (.ref 95), some (.int x1)] (pR r []) N' post)) : wp X (d + 1) k_M_isLaw 0 0 0 [some (.ref 95), some (.int x1)] [] (mk vi vl) post :=
  wr_iload_n (q := 1) (by decide +kernel) rfl rfl <|
  wr_i2l (by decide +kernel) <|
  wr_lconst (n := 0) (v := (0 : Int64)) (by decide +kernel) (by decide) <|
  wr_aload_n (q := 0) (by decide +kernel) rfl rfl <|
  wr_getR2 (b := 96) (ci := 4) (k0 := 0) (idx := 7) lq_95 sq_95 (by decide) (by decide) lf_M_7 rfl vq_95_0 lq_96 (by decide +kernel) <|
  wr_iconst (n := 1) (v := (1 : Int32)) (by decide +kernel) (by decide) <|
  wr_iald lq_96 sq_96 (by unfold vp_in; decide) (by decide +kernel) <|
  wr_iconst (n := 1) (v := (1 : Int32)) (by decide +kernel) (by decide) <|
  wr_isub (by decide +kernel) <|
  wr_i2l (by decide +kernel) <|
  wr_invS (mid2 := 118) (idx := 59) (b1 := 0) (b2 := 0) (c1 := 0) (c2 := 0) (as := [.long x1.toInt64, .long (0 : Int64), .long (((vi 96 1) - (1 : Int32)).toInt64)]) (st := []) pl_118 rfl (Nat.le_of_ble_eq_true rfl) rfl rfl lm_M_59 it_118 (by decide +kernel) k1
theorem b_M_isLaw_15 {X : aX} {d : Nat} {post : aO} {vi : Nat → Nat → Int32} {vl : Nat → Nat → Int64} {x1 y0 : Int32} (q1 : y0 = 0 ∨ y0 = 1) (k1 : post (some (.int y0)) (mk vi vl)) : wp X (d + 1) k_M_isLaw 0 0 15 [some (.ref 95), some (.int x1)] [.int y0] (mk vi vl) post :=
  wr_ret (r := some (.int y0)) (Or.inr (Or.inl ⟨_, rfl, (by decide +kernel), (Or.inr ⟨rfl, q1⟩)⟩)) k1
theorem b_M_lawTells_0 {X : aX} {d : Nat} {post : aO} {vi : Nat → Nat → Int32} {vl : Nat → Nat → Int64} {x1 x2 : Int32} (k1 : (3 : Int32) ≤ x2 → wp X (d + 1) k_M_lawTells 0 0 22 [some (.ref 95), some (.int x1), some (.int x2)] [] (mk vi vl) post) (k2 : ¬ (3 : Int32) ≤ x2 → wp X (d + 1) k_M_lawTells 0 0 5 [some (.ref 95), some (.int x1), some (.int x2)] [] (mk vi vl) post) : wp X (d + 1) k_M_lawTells 0 0 0 [some (.ref 95), some (.int x1), some (.int x2)] [] (mk vi vl) post :=
  wr_iload_n (q := 2) (by decide +kernel) rfl rfl <|
  wr_iconst (n := 3) (v := (3 : Int32)) (by decide +kernel) (by decide) <|
  wr_icmp_ge (off := 20) (t := 22) (by decide +kernel) (by decide) k1 k2
theorem b_M_lawTells_5 {X : aX} {d : Nat} {post : aO} {vi : Nat → Nat → Int32} {vl : Nat → Nat → Int64} {x1 x2 : Int32} (q1 : vp_in (((12 : Int32) + ((8 : Int32) * x2)) + x1) 5976) (k1 : wp X (d + 1) k_M_lawTells 0 0 35 [some (.ref 95), some (.int x1), some (.int x2)] [.int (vi 96 (((12 : Int32) + ((8 : Int32) * x2)) + x1).toNatClampNeg)] (mk vi vl) post) : wp X (d + 1) k_M_lawTells 0 0 5 [some (.ref 95), some (.int x1), some (.int x2)] [] (mk vi vl) post :=
  wr_aload_n (q := 0) (by decide +kernel) rfl rfl <|
  wr_getR2 (b := 96) (ci := 4) (k0 := 0) (idx := 7) lq_95 sq_95 (by decide) (by decide) lf_M_7 rfl vq_95_0 lq_96 (by decide +kernel) <|
  wr_bipush (n := 12) (v := (12 : Int32)) (by decide +kernel) (by decide) <|
  wr_bipush (n := 8) (v := (8 : Int32)) (by decide +kernel) (by decide) <|
  wr_iload_n (q := 2) (by decide +kernel) rfl rfl <|
  wr_imul (by decide +kernel) <|
  wr_iadd (by decide +kernel) <|
  wr_iload_n (q := 1) (by decide +kernel) rfl rfl <|
  wr_iadd (by decide +kernel) <|
  wr_iald lq_96 sq_96 q1 (by decide +kernel) <|
  wr_goto (off := 16) (t := 35) (by decide +kernel) (by decide) k1
theorem b_M_lawTells_22 {X : aX} {d : Nat} {post : aO} {vi : Nat → Nat → Int32} {vl : Nat → Nat → Int64} {x1 x2 : Int32} (k1 : CallOk X d 0 0 k_M_isBroken [.ref 95, .int x1] (mk vi vl) (fun r N' => wp X (d + 1) k_M_lawTells 0 0 27 [some (.ref 95), some (.int x1), some (.int x2)] (pR r []) N' post)) : wp X (d + 1) k_M_lawTells 0 0 22 [some (.ref 95), some (.int x1), some (.int x2)] [] (mk vi vl) post :=
  wr_aload_n (q := 0) (by decide +kernel) rfl rfl <|
  wr_iload_n (q := 1) (by decide +kernel) rfl rfl <|
  wr_invV (a := 95) (ci := 4) (mid2 := 151) (idx := 148) (b1 := 0) (b2 := 0) (c1 := 0) (c2 := 0) (as := [.int x1]) (st := []) pl_151 rfl (Nat.le_of_ble_eq_true rfl) rfl rfl lq_95 sq_95 (by decide) rfl lm_M_148 im_151 is_151 (by decide +kernel) k1
theorem b_M_lawTells_27 {X : aX} {d : Nat} {post : aO} {vi : Nat → Nat → Int32} {vl : Nat → Nat → Int64} {x1 x2 y0 : Int32} (k1 : y0 = 0 → wp X (d + 1) k_M_lawTells 0 0 34 [some (.ref 95), some (.int x1), some (.int x2)] [] (mk vi vl) post) (k2 : ¬ y0 = 0 → wp X (d + 1) k_M_lawTells 0 0 30 [some (.ref 95), some (.int x1), some (.int x2)] [] (mk vi vl) post) : wp X (d + 1) k_M_lawTells 0 0 27 [some (.ref 95), some (.int x1), some (.int x2)] [.int y0] (mk vi vl) post :=
  wr_if_eq (off := 7) (t := 34) (by decide +kernel) (by decide) k1 k2
theorem b_M_lawTells_30 {X : aX} {d : Nat} {post : aO} {vi : Nat → Nat → Int32} {vl : Nat → Nat → Int64} {x1 x2 : Int32} (k1 : wp X (d + 1) k_M_lawTells 0 0 35 [some (.ref 95), some (.int x1), some (.int x2)] [.int (1 : Int32)] (mk vi vl) post) : wp X (d + 1) k_M_lawTells 0 0 30 [some (.ref 95), some (.int x1), some (.int x2)] [] (mk vi vl) post :=
  wr_iconst (n := 1) (v := (1 : Int32)) (by decide +kernel) (by decide) <|
  wr_goto (off := 4) (t := 35) (by decide +kernel) (by decide) k1
theorem b_M_lawTells_34 {X : aX} {d : Nat} {post : aO} {vi : Nat → Nat → Int32} {vl : Nat → Nat → Int64} {x1 x2 : Int32} (k1 : wp X (d + 1) k_M_lawTells 0 0 35 [some (.ref 95), some (.int x1), some (.int x2)] [.int (0 : Int32)] (mk vi vl) post) : wp X (d + 1) k_M_lawTells 0 0 34 [some (.ref 95), some (.int x1), some (.int x2)] [] (mk vi vl) post :=
  wr_iconst (n := 0) (v := (0 : Int32)) (by decide +kernel) (by decide) <|
  k1
theorem b_M_lawTells_35 {X : aX} {d : Nat} {post : aO} {vi : Nat → Nat → Int32} {vl : Nat → Nat → Int64} {x1 x2 y0 : Int32} (k1 : post (some (.int y0)) (mk vi vl)) : wp X (d + 1) k_M_lawTells 0 0 35 [some (.ref 95), some (.int x1), some (.int x2)] [.int y0] (mk vi vl) post :=
  wr_ret (r := some (.int y0)) (Or.inr (Or.inl ⟨_, rfl, (by decide +kernel), (Or.inl rfl)⟩)) k1
theorem b_M_isBroken_0 {X : aX} {d : Nat} {post : aO} {vi : Nat → Nat → Int32} {vl : Nat → Nat → Int64} {x1 : Int32} (q1 : vp_in ((20 : Int32) + x1) 5976) (k1 : CallOk X d 0 0 k_M_yearsOf [.ref 95, .int (vi 96 ((20 : Int32) + x1).toNatClampNeg)] (mk vi vl) (fun r N' => wp X (d + 1) k_M_isBroken 0 0 13 [some (.ref 95), some (.int x1), none, none, none] (pR r []) N' post)) : wp X (d + 1) k_M_isBroken 0 0 0 [some (.ref 95), some (.int x1), none, none, none] [] (mk vi vl) post :=
  wr_aload_n (q := 0) (by decide +kernel) rfl rfl <|
  wr_aload_n (q := 0) (by decide +kernel) rfl rfl <|
  wr_getR2 (b := 96) (ci := 4) (k0 := 0) (idx := 7) lq_95 sq_95 (by decide) (by decide) lf_M_7 rfl vq_95_0 lq_96 (by decide +kernel) <|
  wr_bipush (n := 20) (v := (20 : Int32)) (by decide +kernel) (by decide) <|
  wr_iload_n (q := 1) (by decide +kernel) rfl rfl <|
  wr_iadd (by decide +kernel) <|
  wr_iald lq_96 sq_96 q1 (by decide +kernel) <|
  wr_invV (a := 95) (ci := 4) (mid2 := 152) (idx := 139) (b1 := 0) (b2 := 0) (c1 := 0) (c2 := 0) (as := [.int (vi 96 ((20 : Int32) + x1).toNatClampNeg)]) (st := []) pl_152 rfl (Nat.le_of_ble_eq_true rfl) rfl rfl lq_95 sq_95 (by decide) rfl lm_M_139 im_152 is_152 (by decide +kernel) k1
theorem b_M_isBroken_13 {X : aX} {d : Nat} {post : aO} {vi : Nat → Nat → Int32} {vl : Nat → Nat → Int64} {x1 y0 : Int32} {o2 o3 o4 : Option Value} (q1 : vp_in ((28 : Int32) + x1) 5976) (k1 : CallOk X d 0 0 k_M_yearsOf [.ref 95, .int (vi 96 ((28 : Int32) + x1).toNatClampNeg)] (mk vi vl) (fun r N' => wp X (d + 1) k_M_isBroken 0 0 27 [some (.ref 95), some (.int x1), some (.int y0), o3, o4] (pR r []) N' post)) : wp X (d + 1) k_M_isBroken 0 0 13 [some (.ref 95), some (.int x1), o2, o3, o4] [.int y0] (mk vi vl) post :=
  wr_istore_n (q := 2) (by decide +kernel) rfl (by decide) <|
  wr_aload_n (q := 0) (by decide +kernel) rfl rfl <|
  wr_aload_n (q := 0) (by decide +kernel) rfl rfl <|
  wr_getR2 (b := 96) (ci := 4) (k0 := 0) (idx := 7) lq_95 sq_95 (by decide) (by decide) lf_M_7 rfl vq_95_0 lq_96 (by decide +kernel) <|
  wr_bipush (n := 28) (v := (28 : Int32)) (by decide +kernel) (by decide) <|
  wr_iload_n (q := 1) (by decide +kernel) rfl rfl <|
  wr_iadd (by decide +kernel) <|
  wr_iald lq_96 sq_96 q1 (by decide +kernel) <|
  wr_invV (a := 95) (ci := 4) (mid2 := 152) (idx := 139) (b1 := 0) (b2 := 0) (c1 := 0) (c2 := 0) (as := [.int (vi 96 ((28 : Int32) + x1).toNatClampNeg)]) (st := []) pl_152 rfl (Nat.le_of_ble_eq_true rfl) rfl rfl lq_95 sq_95 (by decide) rfl lm_M_139 im_152 is_152 (by decide +kernel) k1
theorem b_M_isBroken_27 {X : aX} {d : Nat} {post : aO} {vi : Nat → Nat → Int32} {vl : Nat → Nat → Int64} {x1 x2 y0 : Int32} {o3 o4 : Option Value} (q1 : vp_in ((12 : Int32) + x1) 5976) (k1 : ¬ (vi 96 ((12 : Int32) + x1).toNatClampNeg) = (1 : Int32) → wp X (d + 1) k_M_isBroken 0 0 63 [some (.ref 95), some (.int x1), some (.int x2), some (.int y0), o4] [] (mk vi vl) post) (k2 : (vi 96 ((12 : Int32) + x1).toNatClampNeg) = (1 : Int32) → wp X (d + 1) k_M_isBroken 0 0 41 [some (.ref 95), some (.int x1), some (.int x2), some (.int y0), o4] [] (mk vi vl) post) : wp X (d + 1) k_M_isBroken 0 0 27 [some (.ref 95), some (.int x1), some (.int x2), o3, o4] [.int y0] (mk vi vl) post :=
  wr_istore_n (q := 3) (by decide +kernel) rfl (by decide) <|
  wr_aload_n (q := 0) (by decide +kernel) rfl rfl <|
  wr_getR2 (b := 96) (ci := 4) (k0 := 0) (idx := 7) lq_95 sq_95 (by decide) (by decide) lf_M_7 rfl vq_95_0 lq_96 (by decide +kernel) <|
  wr_bipush (n := 12) (v := (12 : Int32)) (by decide +kernel) (by decide) <|
  wr_iload_n (q := 1) (by decide +kernel) rfl rfl <|
  wr_iadd (by decide +kernel) <|
  wr_iald lq_96 sq_96 q1 (by decide +kernel) <|
  wr_iconst (n := 1) (v := (1 : Int32)) (by decide +kernel) (by decide) <|
  wr_icmp_ne (off := 25) (t := 63) (by decide +kernel) (by decide) k1 k2
theorem b_M_isBroken_41 {X : aX} {d : Nat} {post : aO} {vi : Nat → Nat → Int32} {vl : Nat → Nat → Int64} {x1 x2 x3 : Int32} {o4 : Option Value} (k1 : ¬ ((x2 <<< ((1 : Int32) &&& 31)) &&& x3) = 0 → wp X (d + 1) k_M_isBroken 0 0 57 [some (.ref 95), some (.int x1), some (.int x2), some (.int x3), o4] [] (mk vi vl) post) (k2 : ((x2 <<< ((1 : Int32) &&& 31)) &&& x3) = 0 → wp X (d + 1) k_M_isBroken 0 0 49 [some (.ref 95), some (.int x1), some (.int x2), some (.int x3), o4] [] (mk vi vl) post) : wp X (d + 1) k_M_isBroken 0 0 41 [some (.ref 95), some (.int x1), some (.int x2), some (.int x3), o4] [] (mk vi vl) post :=
  wr_iload_n (q := 2) (by decide +kernel) rfl rfl <|
  wr_iconst (n := 1) (v := (1 : Int32)) (by decide +kernel) (by decide) <|
  wr_ishl (by decide +kernel) <|
  wr_iload_n (q := 3) (by decide +kernel) rfl rfl <|
  wr_iand (by decide +kernel) <|
  wr_if_ne (off := 11) (t := 57) (by decide +kernel) (by decide) k1 k2
theorem b_M_isBroken_49 {X : aX} {d : Nat} {post : aO} {vi : Nat → Nat → Int32} {vl : Nat → Nat → Int64} {x1 x2 x3 : Int32} {o4 : Option Value} (k1 : ((x3 <<< ((1 : Int32) &&& 31)) &&& x2) = 0 → wp X (d + 1) k_M_isBroken 0 0 61 [some (.ref 95), some (.int x1), some (.int x2), some (.int x3), o4] [] (mk vi vl) post) (k2 : ¬ ((x3 <<< ((1 : Int32) &&& 31)) &&& x2) = 0 → wp X (d + 1) k_M_isBroken 0 0 57 [some (.ref 95), some (.int x1), some (.int x2), some (.int x3), o4] [] (mk vi vl) post) : wp X (d + 1) k_M_isBroken 0 0 49 [some (.ref 95), some (.int x1), some (.int x2), some (.int x3), o4] [] (mk vi vl) post :=
  wr_iload_n (q := 3) (by decide +kernel) rfl rfl <|
  wr_iconst (n := 1) (v := (1 : Int32)) (by decide +kernel) (by decide) <|
  wr_ishl (by decide +kernel) <|
  wr_iload_n (q := 2) (by decide +kernel) rfl rfl <|
  wr_iand (by decide +kernel) <|
  wr_if_eq (off := 7) (t := 61) (by decide +kernel) (by decide) k1 k2
theorem b_M_isBroken_57 {X : aX} {d : Nat} {post : aO} {vi : Nat → Nat → Int32} {vl : Nat → Nat → Int64} {x1 x2 x3 : Int32} {o4 : Option Value} (k1 : wp X (d + 1) k_M_isBroken 0 0 62 [some (.ref 95), some (.int x1), some (.int x2), some (.int x3), o4] [.int (1 : Int32)] (mk vi vl) post) : wp X (d + 1) k_M_isBroken 0 0 57 [some (.ref 95), some (.int x1), some (.int x2), some (.int x3), o4] [] (mk vi vl) post :=
  wr_iconst (n := 1) (v := (1 : Int32)) (by decide +kernel) (by decide) <|
  wr_goto (off := 4) (t := 62) (by decide +kernel) (by decide) k1
theorem b_M_isBroken_61 {X : aX} {d : Nat} {post : aO} {vi : Nat → Nat → Int32} {vl : Nat → Nat → Int64} {x1 x2 x3 : Int32} {o4 : Option Value} (k1 : wp X (d + 1) k_M_isBroken 0 0 62 [some (.ref 95), some (.int x1), some (.int x2), some (.int x3), o4] [.int (0 : Int32)] (mk vi vl) post) : wp X (d + 1) k_M_isBroken 0 0 61 [some (.ref 95), some (.int x1), some (.int x2), some (.int x3), o4] [] (mk vi vl) post :=
  wr_iconst (n := 0) (v := (0 : Int32)) (by decide +kernel) (by decide) <|
  k1
theorem b_M_isBroken_62 {X : aX} {d : Nat} {post : aO} {vi : Nat → Nat → Int32} {vl : Nat → Nat → Int64} {x1 x2 x3 y0 : Int32} {o4 : Option Value} (q1 : y0 = 0 ∨ y0 = 1) (k1 : post (some (.int y0)) (mk vi vl)) : wp X (d + 1) k_M_isBroken 0 0 62 [some (.ref 95), some (.int x1), some (.int x2), some (.int x3), o4] [.int y0] (mk vi vl) post :=
  wr_ret (r := some (.int y0)) (Or.inr (Or.inl ⟨_, rfl, (by decide +kernel), (Or.inr ⟨rfl, q1⟩)⟩)) k1
theorem b_M_isBroken_63 {X : aX} {d : Nat} {post : aO} {vi : Nat → Nat → Int32} {vl : Nat → Nat → Int64} {x1 x2 x3 : Int32} {o4 : Option Value} (q1 : vp_in ((20 : Int32) + x1) 5976) (q2 : vp_in ((28 : Int32) + x1) 5976) (k1 : ¬ (vi 96 ((20 : Int32) + x1).toNatClampNeg) = (vi 96 ((28 : Int32) + x1).toNatClampNeg) → wp X (d + 1) k_M_isBroken 0 0 88 [some (.ref 95), some (.int x1), some (.int x2), some (.int x3), o4] [] (mk vi vl) post) (k2 : (vi 96 ((20 : Int32) + x1).toNatClampNeg) = (vi 96 ((28 : Int32) + x1).toNatClampNeg) → wp X (d + 1) k_M_isBroken 0 0 84 [some (.ref 95), some (.int x1), some (.int x2), some (.int x3), o4] [] (mk vi vl) post) : wp X (d + 1) k_M_isBroken 0 0 63 [some (.ref 95), some (.int x1), some (.int x2), some (.int x3), o4] [] (mk vi vl) post :=
  wr_aload_n (q := 0) (by decide +kernel) rfl rfl <|
  wr_getR2 (b := 96) (ci := 4) (k0 := 0) (idx := 7) lq_95 sq_95 (by decide) (by decide) lf_M_7 rfl vq_95_0 lq_96 (by decide +kernel) <|
  wr_bipush (n := 20) (v := (20 : Int32)) (by decide +kernel) (by decide) <|
  wr_iload_n (q := 1) (by decide +kernel) rfl rfl <|
  wr_iadd (by decide +kernel) <|
  wr_iald lq_96 sq_96 q1 (by decide +kernel) <|
  wr_aload_n (q := 0) (by decide +kernel) rfl rfl <|
  wr_getR2 (b := 96) (ci := 4) (k0 := 0) (idx := 7) lq_95 sq_95 (by decide) (by decide) lf_M_7 rfl vq_95_0 lq_96 (by decide +kernel) <|
  wr_bipush (n := 28) (v := (28 : Int32)) (by decide +kernel) (by decide) <|
  wr_iload_n (q := 1) (by decide +kernel) rfl rfl <|
  wr_iadd (by decide +kernel) <|
  wr_iald lq_96 sq_96 q2 (by decide +kernel) <|
  wr_icmp_ne (off := 7) (t := 88) (by decide +kernel) (by decide) k1 k2
theorem b_M_isBroken_84 {X : aX} {d : Nat} {post : aO} {vi : Nat → Nat → Int32} {vl : Nat → Nat → Int64} {x1 x2 x3 : Int32} {o4 : Option Value} (k1 : wp X (d + 1) k_M_isBroken 0 0 89 [some (.ref 95), some (.int x1), some (.int x2), some (.int x3), o4] [.int (1 : Int32)] (mk vi vl) post) : wp X (d + 1) k_M_isBroken 0 0 84 [some (.ref 95), some (.int x1), some (.int x2), some (.int x3), o4] [] (mk vi vl) post :=
  wr_iconst (n := 1) (v := (1 : Int32)) (by decide +kernel) (by decide) <|
  wr_goto (off := 4) (t := 89) (by decide +kernel) (by decide) k1
theorem b_M_isBroken_88 {X : aX} {d : Nat} {post : aO} {vi : Nat → Nat → Int32} {vl : Nat → Nat → Int64} {x1 x2 x3 : Int32} {o4 : Option Value} (k1 : wp X (d + 1) k_M_isBroken 0 0 89 [some (.ref 95), some (.int x1), some (.int x2), some (.int x3), o4] [.int (0 : Int32)] (mk vi vl) post) : wp X (d + 1) k_M_isBroken 0 0 88 [some (.ref 95), some (.int x1), some (.int x2), some (.int x3), o4] [] (mk vi vl) post :=
  wr_iconst (n := 0) (v := (0 : Int32)) (by decide +kernel) (by decide) <|
  k1
theorem b_M_isBroken_89 {X : aX} {d : Nat} {post : aO} {vi : Nat → Nat → Int32} {vl : Nat → Nat → Int64} {x1 x2 x3 y0 : Int32} {o4 : Option Value} (q1 : vp_in ((12 : Int32) + x1) 5976) (k1 : ¬ (vi 96 ((12 : Int32) + x1).toNatClampNeg) = (4 : Int32) → wp X (d + 1) k_M_isBroken 0 0 132 [some (.ref 95), some (.int x1), some (.int x2), some (.int x3), some (.int y0)] [] (mk vi vl) post) (k2 : (vi 96 ((12 : Int32) + x1).toNatClampNeg) = (4 : Int32) → wp X (d + 1) k_M_isBroken 0 0 104 [some (.ref 95), some (.int x1), some (.int x2), some (.int x3), some (.int y0)] [] (mk vi vl) post) : wp X (d + 1) k_M_isBroken 0 0 89 [some (.ref 95), some (.int x1), some (.int x2), some (.int x3), o4] [.int y0] (mk vi vl) post :=
  wr_istore (i := 4) (by decide +kernel) (by decide) <|
  wr_aload_n (q := 0) (by decide +kernel) rfl rfl <|
  wr_getR2 (b := 96) (ci := 4) (k0 := 0) (idx := 7) lq_95 sq_95 (by decide) (by decide) lf_M_7 rfl vq_95_0 lq_96 (by decide +kernel) <|
  wr_bipush (n := 12) (v := (12 : Int32)) (by decide +kernel) (by decide) <|
  wr_iload_n (q := 1) (by decide +kernel) rfl rfl <|
  wr_iadd (by decide +kernel) <|
  wr_iald lq_96 sq_96 q1 (by decide +kernel) <|
  wr_iconst (n := 4) (v := (4 : Int32)) (by decide +kernel) (by decide) <|
  wr_icmp_ne (off := 31) (t := 132) (by decide +kernel) (by decide) k1 k2
theorem b_M_isBroken_104 {X : aX} {d : Nat} {post : aO} {vi : Nat → Nat → Int32} {vl : Nat → Nat → Int64} {x1 x2 x3 x4 : Int32} (k1 : x4 = 0 → wp X (d + 1) k_M_isBroken 0 0 120 [some (.ref 95), some (.int x1), some (.int x2), some (.int x3), some (.int x4)] [] (mk vi vl) post) (k2 : ¬ x4 = 0 → wp X (d + 1) k_M_isBroken 0 0 109 [some (.ref 95), some (.int x1), some (.int x2), some (.int x3), some (.int x4)] [] (mk vi vl) post) : wp X (d + 1) k_M_isBroken 0 0 104 [some (.ref 95), some (.int x1), some (.int x2), some (.int x3), some (.int x4)] [] (mk vi vl) post :=
  wr_iload (i := 4) (by decide +kernel) rfl <|
  wr_if_eq (off := 14) (t := 120) (by decide +kernel) (by decide) k1 k2
theorem b_M_isBroken_109 {X : aX} {d : Nat} {post : aO} {vi : Nat → Nat → Int32} {vl : Nat → Nat → Int64} {x1 x2 x3 x4 : Int32} (k1 : CallOk X d 0 0 k_M_ones [.int x2] (mk vi vl) (fun r N' => wp X (d + 1) k_M_isBroken 0 0 113 [some (.ref 95), some (.int x1), some (.int x2), some (.int x3), some (.int x4)] (pR r []) N' post)) : wp X (d + 1) k_M_isBroken 0 0 109 [some (.ref 95), some (.int x1), some (.int x2), some (.int x3), some (.int x4)] [] (mk vi vl) post :=
  wr_iload_n (q := 2) (by decide +kernel) rfl rfl <|
  wr_invS (mid2 := 153) (idx := 142) (b1 := 0) (b2 := 0) (c1 := 0) (c2 := 0) (as := [.int x2]) (st := []) pl_153 rfl (Nat.le_of_ble_eq_true rfl) rfl rfl lm_M_142 it_153 (by decide +kernel) k1
theorem b_M_isBroken_113 {X : aX} {d : Nat} {post : aO} {vi : Nat → Nat → Int32} {vl : Nat → Nat → Int64} {x1 x2 x3 x4 y0 : Int32} (k1 : y0 ≤ (1 : Int32) → wp X (d + 1) k_M_isBroken 0 0 132 [some (.ref 95), some (.int x1), some (.int x2), some (.int x3), some (.int x4)] [] (mk vi vl) post) (k2 : ¬ y0 ≤ (1 : Int32) → wp X (d + 1) k_M_isBroken 0 0 117 [some (.ref 95), some (.int x1), some (.int x2), some (.int x3), some (.int x4)] [] (mk vi vl) post) : wp X (d + 1) k_M_isBroken 0 0 113 [some (.ref 95), some (.int x1), some (.int x2), some (.int x3), some (.int x4)] [.int y0] (mk vi vl) post :=
  wr_iconst (n := 1) (v := (1 : Int32)) (by decide +kernel) (by decide) <|
  wr_icmp_le (off := 18) (t := 132) (by decide +kernel) (by decide) k1 k2
theorem b_M_isBroken_117 {X : aX} {d : Nat} {post : aO} {vi : Nat → Nat → Int32} {vl : Nat → Nat → Int64} {x1 x2 x3 x4 : Int32} (k1 : wp X (d + 1) k_M_isBroken 0 0 128 [some (.ref 95), some (.int x1), some (.int x2), some (.int x3), some (.int x4)] [] (mk vi vl) post) : wp X (d + 1) k_M_isBroken 0 0 117 [some (.ref 95), some (.int x1), some (.int x2), some (.int x3), some (.int x4)] [] (mk vi vl) post :=
  wr_goto (off := 11) (t := 128) (by decide +kernel) (by decide) k1
theorem b_M_isBroken_120 {X : aX} {d : Nat} {post : aO} {vi : Nat → Nat → Int32} {vl : Nat → Nat → Int64} {x1 x2 x3 x4 : Int32} (k1 : x2 = 0 → wp X (d + 1) k_M_isBroken 0 0 132 [some (.ref 95), some (.int x1), some (.int x2), some (.int x3), some (.int x4)] [] (mk vi vl) post) (k2 : ¬ x2 = 0 → wp X (d + 1) k_M_isBroken 0 0 124 [some (.ref 95), some (.int x1), some (.int x2), some (.int x3), some (.int x4)] [] (mk vi vl) post) : wp X (d + 1) k_M_isBroken 0 0 120 [some (.ref 95), some (.int x1), some (.int x2), some (.int x3), some (.int x4)] [] (mk vi vl) post :=
  wr_iload_n (q := 2) (by decide +kernel) rfl rfl <|
  wr_if_eq (off := 11) (t := 132) (by decide +kernel) (by decide) k1 k2
theorem b_M_isBroken_124 {X : aX} {d : Nat} {post : aO} {vi : Nat → Nat → Int32} {vl : Nat → Nat → Int64} {x1 x2 x3 x4 : Int32} (k1 : x3 = 0 → wp X (d + 1) k_M_isBroken 0 0 132 [some (.ref 95), some (.int x1), some (.int x2), some (.int x3), some (.int x4)] [] (mk vi vl) post) (k2 : ¬ x3 = 0 → wp X (d + 1) k_M_isBroken 0 0 128 [some (.ref 95), some (.int x1), some (.int x2), some (.int x3), some (.int x4)] [] (mk vi vl) post) : wp X (d + 1) k_M_isBroken 0 0 124 [some (.ref 95), some (.int x1), some (.int x2), some (.int x3), some (.int x4)] [] (mk vi vl) post :=
  wr_iload_n (q := 3) (by decide +kernel) rfl rfl <|
  wr_if_eq (off := 7) (t := 132) (by decide +kernel) (by decide) k1 k2
theorem b_M_isBroken_128 {X : aX} {d : Nat} {post : aO} {vi : Nat → Nat → Int32} {vl : Nat → Nat → Int64} {x1 x2 x3 x4 : Int32} (k1 : wp X (d + 1) k_M_isBroken 0 0 133 [some (.ref 95), some (.int x1), some (.int x2), some (.int x3), some (.int x4)] [.int (1 : Int32)] (mk vi vl) post) : wp X (d + 1) k_M_isBroken 0 0 128 [some (.ref 95), some (.int x1), some (.int x2), some (.int x3), some (.int x4)] [] (mk vi vl) post :=
  wr_iconst (n := 1) (v := (1 : Int32)) (by decide +kernel) (by decide) <|
  wr_goto (off := 4) (t := 133) (by decide +kernel) (by decide) k1
theorem b_M_isBroken_132 {X : aX} {d : Nat} {post : aO} {vi : Nat → Nat → Int32} {vl : Nat → Nat → Int64} {x1 x2 x3 x4 : Int32} (k1 : wp X (d + 1) k_M_isBroken 0 0 133 [some (.ref 95), some (.int x1), some (.int x2), some (.int x3), some (.int x4)] [.int (0 : Int32)] (mk vi vl) post) : wp X (d + 1) k_M_isBroken 0 0 132 [some (.ref 95), some (.int x1), some (.int x2), some (.int x3), some (.int x4)] [] (mk vi vl) post :=
  wr_iconst (n := 0) (v := (0 : Int32)) (by decide +kernel) (by decide) <|
  k1
theorem b_M_isBroken_133 {X : aX} {d : Nat} {post : aO} {vi : Nat → Nat → Int32} {vl : Nat → Nat → Int64} {x1 x2 x3 x4 y0 : Int32} (q1 : y0 = 0 ∨ y0 = 1) (k1 : post (some (.int y0)) (mk vi vl)) : wp X (d + 1) k_M_isBroken 0 0 133 [some (.ref 95), some (.int x1), some (.int x2), some (.int x3), some (.int x4)] [.int y0] (mk vi vl) post :=
  wr_ret (r := some (.int y0)) (Or.inr (Or.inl ⟨_, rfl, (by decide +kernel), (Or.inr ⟨rfl, q1⟩)⟩)) k1
theorem b_M_yearsOf_0 {X : aX} {d : Nat} {post : aO} {vi : Nat → Nat → Int32} {vl : Nat → Nat → Int64} {x1 : Int32} (k1 : wp X (d + 1) k_M_yearsOf 0 0 4 [some (.ref 95), some (.int x1), some (.int (0 : Int32)), some (.int (0 : Int32))] [] (mk vi vl) post) : wp X (d + 1) k_M_yearsOf 0 0 0 [some (.ref 95), some (.int x1), none, none] [] (mk vi vl) post :=
  wr_iconst (n := 0) (v := (0 : Int32)) (by decide +kernel) (by decide) <|
  wr_istore_n (q := 2) (by decide +kernel) rfl (by decide) <|
  wr_iconst (n := 0) (v := (0 : Int32)) (by decide +kernel) (by decide) <|
  wr_istore_n (q := 3) (by decide +kernel) rfl (by decide) <|
  k1
theorem b_M_yearsOf_4 {X : aX} {d : Nat} {post : aO} {vi : Nat → Nat → Int32} {vl : Nat → Nat → Int64} {x1 x2 x3 : Int32} (k1 : (vi 96 0) ≤ x3 → wp X (d + 1) k_M_yearsOf 0 0 40 [some (.ref 95), some (.int x1), some (.int x2), some (.int x3)] [] (mk vi vl) post) (k2 : ¬ (vi 96 0) ≤ x3 → wp X (d + 1) k_M_yearsOf 0 0 14 [some (.ref 95), some (.int x1), some (.int x2), some (.int x3)] [] (mk vi vl) post) : wp X (d + 1) k_M_yearsOf 0 0 4 [some (.ref 95), some (.int x1), some (.int x2), some (.int x3)] [] (mk vi vl) post :=
  wr_iload_n (q := 3) (by decide +kernel) rfl rfl <|
  wr_aload_n (q := 0) (by decide +kernel) rfl rfl <|
  wr_getR2 (b := 96) (ci := 4) (k0 := 0) (idx := 7) lq_95 sq_95 (by decide) (by decide) lf_M_7 rfl vq_95_0 lq_96 (by decide +kernel) <|
  wr_iconst (n := 0) (v := (0 : Int32)) (by decide +kernel) (by decide) <|
  wr_iald lq_96 sq_96 (by unfold vp_in; decide) (by decide +kernel) <|
  wr_icmp_ge (off := 29) (t := 40) (by decide +kernel) (by decide) k1 k2
theorem b_M_yearsOf_14 {X : aX} {d : Nat} {post : aO} {vi : Nat → Nat → Int32} {vl : Nat → Nat → Int64} {x1 x2 x3 : Int32} (q1 : vp_in x3 5) (k1 : ¬ (vi 104 x3.toNatClampNeg) = x1 → wp X (d + 1) k_M_yearsOf 0 0 31 [some (.ref 95), some (.int x1), some (.int x2), some (.int x3)] [.int x2] (mk vi vl) post) (k2 : (vi 104 x3.toNatClampNeg) = x1 → wp X (d + 1) k_M_yearsOf 0 0 25 [some (.ref 95), some (.int x1), some (.int x2), some (.int x3)] [.int x2] (mk vi vl) post) : wp X (d + 1) k_M_yearsOf 0 0 14 [some (.ref 95), some (.int x1), some (.int x2), some (.int x3)] [] (mk vi vl) post :=
  wr_iload_n (q := 2) (by decide +kernel) rfl rfl <|
  wr_aload_n (q := 0) (by decide +kernel) rfl rfl <|
  wr_getR2 (b := 104) (ci := 4) (k0 := 14) (idx := 38) lq_95 sq_95 (by decide) (by decide) lf_M_38 rfl vq_95_14 lq_104 (by decide +kernel) <|
  wr_iload_n (q := 3) (by decide +kernel) rfl rfl <|
  wr_iald lq_104 sq_104 q1 (by decide +kernel) <|
  wr_iload_n (q := 1) (by decide +kernel) rfl rfl <|
  wr_icmp_ne (off := 9) (t := 31) (by decide +kernel) (by decide) k1 k2
theorem b_M_yearsOf_25 {X : aX} {d : Nat} {post : aO} {vi : Nat → Nat → Int32} {vl : Nat → Nat → Int64} {x1 x2 x3 y0 : Int32} (k1 : wp X (d + 1) k_M_yearsOf 0 0 32 [some (.ref 95), some (.int x1), some (.int x2), some (.int x3)] [.int ((1 : Int32) <<< (x3 &&& 31)), .int y0] (mk vi vl) post) : wp X (d + 1) k_M_yearsOf 0 0 25 [some (.ref 95), some (.int x1), some (.int x2), some (.int x3)] [.int y0] (mk vi vl) post :=
  wr_iconst (n := 1) (v := (1 : Int32)) (by decide +kernel) (by decide) <|
  wr_iload_n (q := 3) (by decide +kernel) rfl rfl <|
  wr_ishl (by decide +kernel) <|
  wr_goto (off := 4) (t := 32) (by decide +kernel) (by decide) k1
theorem b_M_yearsOf_31 {X : aX} {d : Nat} {post : aO} {vi : Nat → Nat → Int32} {vl : Nat → Nat → Int64} {x1 x2 x3 y0 : Int32} (k1 : wp X (d + 1) k_M_yearsOf 0 0 32 [some (.ref 95), some (.int x1), some (.int x2), some (.int x3)] [.int (0 : Int32), .int y0] (mk vi vl) post) : wp X (d + 1) k_M_yearsOf 0 0 31 [some (.ref 95), some (.int x1), some (.int x2), some (.int x3)] [.int y0] (mk vi vl) post :=
  wr_iconst (n := 0) (v := (0 : Int32)) (by decide +kernel) (by decide) <|
  k1
theorem b_M_yearsOf_32 {X : aX} {d : Nat} {post : aO} {vi : Nat → Nat → Int32} {vl : Nat → Nat → Int64} {x1 x2 x3 y0 y1 : Int32} (k1 : wp X (d + 1) k_M_yearsOf 0 0 4 [some (.ref 95), some (.int x1), some (.int (y0 ||| y1)), some (.int (x3 + (1 : Int32)))] [] (mk vi vl) post) : wp X (d + 1) k_M_yearsOf 0 0 32 [some (.ref 95), some (.int x1), some (.int x2), some (.int x3)] [.int y1, .int y0] (mk vi vl) post :=
  wr_ior (by decide +kernel) <|
  wr_istore_n (q := 2) (by decide +kernel) rfl (by decide) <|
  wr_iinc (i := 3) (n := 1) (v := (1 : Int32)) (by decide +kernel) rfl (by decide) (by decide) <|
  wr_goto (off := -33) (t := 4) (by decide +kernel) (by decide) k1
theorem b_M_yearsOf_40 {X : aX} {d : Nat} {post : aO} {vi : Nat → Nat → Int32} {vl : Nat → Nat → Int64} {x1 x2 x3 : Int32} (k1 : post (some (.int x2)) (mk vi vl)) : wp X (d + 1) k_M_yearsOf 0 0 40 [some (.ref 95), some (.int x1), some (.int x2), some (.int x3)] [] (mk vi vl) post :=
  wr_iload_n (q := 2) (by decide +kernel) rfl rfl <|
  wr_ret (r := some (.int x2)) (Or.inr (Or.inl ⟨_, rfl, (by decide +kernel), (Or.inl rfl)⟩)) k1
theorem b_M_ones_0 {X : aX} {d : Nat} {post : aO} {vi : Nat → Nat → Int32} {vl : Nat → Nat → Int64} {x0 : Int32} (k1 : wp X (d + 1) k_M_ones 0 0 4 [some (.int x0), some (.int (0 : Int32)), some (.int (0 : Int32))] [] (mk vi vl) post) : wp X (d + 1) k_M_ones 0 0 0 [some (.int x0), none, none] [] (mk vi vl) post :=
  wr_iconst (n := 0) (v := (0 : Int32)) (by decide +kernel) (by decide) <|
  wr_istore_n (q := 1) (by decide +kernel) rfl (by decide) <|
  wr_iconst (n := 0) (v := (0 : Int32)) (by decide +kernel) (by decide) <|
  wr_istore_n (q := 2) (by decide +kernel) rfl (by decide) <|
  k1
theorem b_M_ones_4 {X : aX} {d : Nat} {post : aO} {vi : Nat → Nat → Int32} {vl : Nat → Nat → Int64} {x0 x1 x2 : Int32} (k1 : (8 : Int32) ≤ x2 → wp X (d + 1) k_M_ones 0 0 24 [some (.int x0), some (.int x1), some (.int x2)] [] (mk vi vl) post) (k2 : ¬ (8 : Int32) ≤ x2 → wp X (d + 1) k_M_ones 0 0 10 [some (.int x0), some (.int x1), some (.int x2)] [] (mk vi vl) post) : wp X (d + 1) k_M_ones 0 0 4 [some (.int x0), some (.int x1), some (.int x2)] [] (mk vi vl) post :=
  wr_iload_n (q := 2) (by decide +kernel) rfl rfl <|
  wr_bipush (n := 8) (v := (8 : Int32)) (by decide +kernel) (by decide) <|
  wr_icmp_ge (off := 17) (t := 24) (by decide +kernel) (by decide) k1 k2
theorem b_M_ones_10 {X : aX} {d : Nat} {post : aO} {vi : Nat → Nat → Int32} {vl : Nat → Nat → Int64} {x0 x1 x2 : Int32} (k1 : wp X (d + 1) k_M_ones 0 0 4 [some (.int x0), some (.int (x1 + ((x0 >>> (x2 &&& 31)) &&& (1 : Int32)))), some (.int (x2 + (1 : Int32)))] [] (mk vi vl) post) : wp X (d + 1) k_M_ones 0 0 10 [some (.int x0), some (.int x1), some (.int x2)] [] (mk vi vl) post :=
  wr_iload_n (q := 1) (by decide +kernel) rfl rfl <|
  wr_iload_n (q := 0) (by decide +kernel) rfl rfl <|
  wr_iload_n (q := 2) (by decide +kernel) rfl rfl <|
  wr_ishr (by decide +kernel) <|
  wr_iconst (n := 1) (v := (1 : Int32)) (by decide +kernel) (by decide) <|
  wr_iand (by decide +kernel) <|
  wr_iadd (by decide +kernel) <|
  wr_istore_n (q := 1) (by decide +kernel) rfl (by decide) <|
  wr_iinc (i := 2) (n := 1) (v := (1 : Int32)) (by decide +kernel) rfl (by decide) (by decide) <|
  wr_goto (off := -17) (t := 4) (by decide +kernel) (by decide) k1
theorem b_M_ones_24 {X : aX} {d : Nat} {post : aO} {vi : Nat → Nat → Int32} {vl : Nat → Nat → Int64} {x0 x1 x2 : Int32} (k1 : post (some (.int x1)) (mk vi vl)) : wp X (d + 1) k_M_ones 0 0 24 [some (.int x0), some (.int x1), some (.int x2)] [] (mk vi vl) post :=
  wr_iload_n (q := 1) (by decide +kernel) rfl rfl <|
  wr_ret (r := some (.int x1)) (Or.inr (Or.inl ⟨_, rfl, (by decide +kernel), (Or.inl rfl)⟩)) k1
theorem b_M_mark_0 {X : aX} {d : Nat} {post : aO} {vi : Nat → Nat → Int32} {vl : Nat → Nat → Int64} {x1 x2 : Int32} (k1 : CallOk X d 0 0 k_M_isLaw [.ref 95, .int x1] (mk vi vl) (fun r N' => wp X (d + 1) k_M_mark 0 0 5 [some (.ref 95), some (.int x1), some (.int x2), none, none, none] (pR r []) N' post)) : wp X (d + 1) k_M_mark 0 0 0 [some (.ref 95), some (.int x1), some (.int x2), none, none, none] [] (mk vi vl) post :=
  wr_aload_n (q := 0) (by decide +kernel) rfl rfl <|
  wr_iload_n (q := 1) (by decide +kernel) rfl rfl <|
  wr_invV (a := 95) (ci := 4) (mid2 := 149) (idx := 159) (b1 := 0) (b2 := 0) (c1 := 0) (c2 := 0) (as := [.int x1]) (st := []) pl_149 rfl (Nat.le_of_ble_eq_true rfl) rfl rfl lq_95 sq_95 (by decide) rfl lm_M_159 im_149 is_149 (by decide +kernel) k1
theorem b_M_mark_5 {X : aX} {d : Nat} {post : aO} {vi : Nat → Nat → Int32} {vl : Nat → Nat → Int64} {x1 x2 y0 : Int32} {o3 o4 o5 : Option Value} (k1 : y0 = 0 → wp X (d + 1) k_M_mark 0 0 20 [some (.ref 95), some (.int x1), some (.int x2), o3, o4, o5] [] (mk vi vl) post) (k2 : ¬ y0 = 0 → wp X (d + 1) k_M_mark 0 0 8 [some (.ref 95), some (.int x1), some (.int x2), o3, o4, o5] [] (mk vi vl) post) : wp X (d + 1) k_M_mark 0 0 5 [some (.ref 95), some (.int x1), some (.int x2), o3, o4, o5] [.int y0] (mk vi vl) post :=
  wr_if_eq (off := 15) (t := 20) (by decide +kernel) (by decide) k1 k2
theorem b_M_mark_8 {X : aX} {d : Nat} {post : aO} {vi : Nat → Nat → Int32} {vl : Nat → Nat → Int64} {x1 x2 : Int32} {o3 o4 o5 : Option Value} (k1 : CallOk X d 0 0 k_M_in [.long x2.toInt64, .long (1 : Int64), .long (5 : Int64)] (mk vi vl) (fun r N' => wp X (d + 1) k_M_mark 0 0 17 [some (.ref 95), some (.int x1), some (.int x2), o3, o4, o5] (pR r []) N' post)) : wp X (d + 1) k_M_mark 0 0 8 [some (.ref 95), some (.int x1), some (.int x2), o3, o4, o5] [] (mk vi vl) post :=
  wr_iload_n (q := 2) (by decide +kernel) rfl rfl <|
  wr_i2l (by decide +kernel) <|
  wr_lconst (n := 1) (v := (1 : Int64)) (by decide +kernel) (by decide) <|
  wr_ldc2 (i := 57) (v := (5 : Int64)) (by decide +kernel) lj_M_57 <|
  wr_invS (mid2 := 118) (idx := 59) (b1 := 0) (b2 := 0) (c1 := 0) (c2 := 0) (as := [.long x2.toInt64, .long (1 : Int64), .long (5 : Int64)]) (st := []) pl_118 rfl (Nat.le_of_ble_eq_true rfl) rfl rfl lm_M_59 it_118 (by decide +kernel) k1
theorem b_M_mark_17 {X : aX} {d : Nat} {post : aO} {vi : Nat → Nat → Int32} {vl : Nat → Nat → Int64} {x1 x2 y0 : Int32} {o3 o4 o5 : Option Value} (k1 : ¬ y0 = 0 → wp X (d + 1) k_M_mark 0 0 22 [some (.ref 95), some (.int x1), some (.int x2), o3, o4, o5] [] (mk vi vl) post) (k2 : y0 = 0 → wp X (d + 1) k_M_mark 0 0 20 [some (.ref 95), some (.int x1), some (.int x2), o3, o4, o5] [] (mk vi vl) post) : wp X (d + 1) k_M_mark 0 0 17 [some (.ref 95), some (.int x1), some (.int x2), o3, o4, o5] [.int y0] (mk vi vl) post :=
  wr_if_ne (off := 5) (t := 22) (by decide +kernel) (by decide) k1 k2
theorem b_M_mark_20 {X : aX} {d : Nat} {post : aO} {vi : Nat → Nat → Int32} {vl : Nat → Nat → Int64} {x1 x2 : Int32} {o3 o4 o5 : Option Value} (k1 : post (some (.int (-1 : Int32))) (mk vi vl)) : wp X (d + 1) k_M_mark 0 0 20 [some (.ref 95), some (.int x1), some (.int x2), o3, o4, o5] [] (mk vi vl) post :=
  wr_iconst (n := -1) (v := (-1 : Int32)) (by decide +kernel) (by decide) <|
  wr_ret (r := some (.int (-1 : Int32))) (Or.inr (Or.inl ⟨_, rfl, (by decide +kernel), (Or.inl rfl)⟩)) k1
theorem b_M_mark_22 {X : aX} {d : Nat} {post : aO} {vi : Nat → Nat → Int32} {vl : Nat → Nat → Int64} {x1 x2 : Int32} {o3 o4 o5 : Option Value} (q1 : vp_in ((12 : Int32) + x1) 5976) (k1 : (vi 96 ((12 : Int32) + x1).toNatClampNeg) = x2 → wp X (d + 1) k_M_mark 0 0 63 [some (.ref 95), some (.int x1), some (.int x2), some (.int (vi 96 ((12 : Int32) + x1).toNatClampNeg)), o4, o5] [] (mk vi vl) post) (k2 : ¬ (vi 96 ((12 : Int32) + x1).toNatClampNeg) = x2 → wp X (d + 1) k_M_mark 0 0 37 [some (.ref 95), some (.int x1), some (.int x2), some (.int (vi 96 ((12 : Int32) + x1).toNatClampNeg)), o4, o5] [] (mk vi vl) post) : wp X (d + 1) k_M_mark 0 0 22 [some (.ref 95), some (.int x1), some (.int x2), o3, o4, o5] [] (mk vi vl) post :=
  wr_aload_n (q := 0) (by decide +kernel) rfl rfl <|
  wr_getR2 (b := 96) (ci := 4) (k0 := 0) (idx := 7) lq_95 sq_95 (by decide) (by decide) lf_M_7 rfl vq_95_0 lq_96 (by decide +kernel) <|
  wr_bipush (n := 12) (v := (12 : Int32)) (by decide +kernel) (by decide) <|
  wr_iload_n (q := 1) (by decide +kernel) rfl rfl <|
  wr_iadd (by decide +kernel) <|
  wr_iald lq_96 sq_96 q1 (by decide +kernel) <|
  wr_istore_n (q := 3) (by decide +kernel) rfl (by decide) <|
  wr_iload_n (q := 3) (by decide +kernel) rfl rfl <|
  wr_iload_n (q := 2) (by decide +kernel) rfl rfl <|
  wr_icmp_eq (off := 29) (t := 63) (by decide +kernel) (by decide) k1 k2
theorem b_M_mark_37 {X : aX} {d : Nat} {post : aO} {vi : Nat → Nat → Int32} {vl : Nat → Nat → Int64} {x1 x2 x3 : Int32} {o4 o5 : Option Value} (k1 : ¬ x2 = (1 : Int32) → wp X (d + 1) k_M_mark 0 0 47 [some (.ref 95), some (.int x1), some (.int x2), some (.int x3), o4, o5] [] (mk vi vl) post) (k2 : x2 = (1 : Int32) → wp X (d + 1) k_M_mark 0 0 42 [some (.ref 95), some (.int x1), some (.int x2), some (.int x3), o4, o5] [] (mk vi vl) post) : wp X (d + 1) k_M_mark 0 0 37 [some (.ref 95), some (.int x1), some (.int x2), some (.int x3), o4, o5] [] (mk vi vl) post :=
  wr_iload_n (q := 2) (by decide +kernel) rfl rfl <|
  wr_iconst (n := 1) (v := (1 : Int32)) (by decide +kernel) (by decide) <|
  wr_icmp_ne (off := 8) (t := 47) (by decide +kernel) (by decide) k1 k2
theorem b_M_mark_42 {X : aX} {d : Nat} {post : aO} {vi : Nat → Nat → Int32} {vl : Nat → Nat → Int64} {x1 x2 x3 : Int32} {o4 o5 : Option Value} (k1 : x3 = (4 : Int32) → wp X (d + 1) k_M_mark 0 0 63 [some (.ref 95), some (.int x1), some (.int x2), some (.int x3), o4, o5] [] (mk vi vl) post) (k2 : ¬ x3 = (4 : Int32) → wp X (d + 1) k_M_mark 0 0 47 [some (.ref 95), some (.int x1), some (.int x2), some (.int x3), o4, o5] [] (mk vi vl) post) : wp X (d + 1) k_M_mark 0 0 42 [some (.ref 95), some (.int x1), some (.int x2), some (.int x3), o4, o5] [] (mk vi vl) post :=
  wr_iload_n (q := 3) (by decide +kernel) rfl rfl <|
  wr_iconst (n := 4) (v := (4 : Int32)) (by decide +kernel) (by decide) <|
  wr_icmp_eq (off := 19) (t := 63) (by decide +kernel) (by decide) k1 k2
theorem b_M_mark_47 {X : aX} {d : Nat} {post : aO} {vi : Nat → Nat → Int32} {vl : Nat → Nat → Int64} {x1 x2 x3 : Int32} {o4 o5 : Option Value} (k1 : ¬ x2 = (3 : Int32) → wp X (d + 1) k_M_mark 0 0 57 [some (.ref 95), some (.int x1), some (.int x2), some (.int x3), o4, o5] [] (mk vi vl) post) (k2 : x2 = (3 : Int32) → wp X (d + 1) k_M_mark 0 0 52 [some (.ref 95), some (.int x1), some (.int x2), some (.int x3), o4, o5] [] (mk vi vl) post) : wp X (d + 1) k_M_mark 0 0 47 [some (.ref 95), some (.int x1), some (.int x2), some (.int x3), o4, o5] [] (mk vi vl) post :=
  wr_iload_n (q := 2) (by decide +kernel) rfl rfl <|
  wr_iconst (n := 3) (v := (3 : Int32)) (by decide +kernel) (by decide) <|
  wr_icmp_ne (off := 8) (t := 57) (by decide +kernel) (by decide) k1 k2
theorem b_M_mark_52 {X : aX} {d : Nat} {post : aO} {vi : Nat → Nat → Int32} {vl : Nat → Nat → Int64} {x1 x2 x3 : Int32} {o4 o5 : Option Value} (k1 : x3 = (5 : Int32) → wp X (d + 1) k_M_mark 0 0 63 [some (.ref 95), some (.int x1), some (.int x2), some (.int x3), o4, o5] [] (mk vi vl) post) (k2 : ¬ x3 = (5 : Int32) → wp X (d + 1) k_M_mark 0 0 57 [some (.ref 95), some (.int x1), some (.int x2), some (.int x3), o4, o5] [] (mk vi vl) post) : wp X (d + 1) k_M_mark 0 0 52 [some (.ref 95), some (.int x1), some (.int x2), some (.int x3), o4, o5] [] (mk vi vl) post :=
  wr_iload_n (q := 3) (by decide +kernel) rfl rfl <|
  wr_iconst (n := 5) (v := (5 : Int32)) (by decide +kernel) (by decide) <|
  wr_icmp_eq (off := 9) (t := 63) (by decide +kernel) (by decide) k1 k2
theorem b_M_mark_57 {X : aX} {d : Nat} {post : aO} {vi : Nat → Nat → Int32} {vl : Nat → Nat → Int64} {x1 x2 x3 : Int32} {o4 o5 : Option Value} (k1 : CallOk X d 0 0 k_M_found [.ref 95, .int (3 : Int32)] (mk vi vl) (fun r N' => wp X (d + 1) k_M_mark 0 0 62 [some (.ref 95), some (.int x1), some (.int x2), some (.int x3), o4, o5] (pR r []) N' post)) : wp X (d + 1) k_M_mark 0 0 57 [some (.ref 95), some (.int x1), some (.int x2), some (.int x3), o4, o5] [] (mk vi vl) post :=
  wr_aload_n (q := 0) (by decide +kernel) rfl rfl <|
  wr_iconst (n := 3) (v := (3 : Int32)) (by decide +kernel) (by decide) <|
  wr_invV (a := 95) (ci := 4) (mid2 := 119) (idx := 69) (b1 := 0) (b2 := 0) (c1 := 0) (c2 := 0) (as := [.int (3 : Int32)]) (st := []) pl_119 rfl (Nat.le_of_ble_eq_true rfl) rfl rfl lq_95 sq_95 (by decide) rfl lm_M_69 im_119 is_119 (by decide +kernel) k1
theorem b_M_mark_62 {X : aX} {d : Nat} {post : aO} {vi : Nat → Nat → Int32} {vl : Nat → Nat → Int64} {x1 x2 x3 y0 : Int32} {o4 o5 : Option Value} (k1 : post (some (.int y0)) (mk vi vl)) : wp X (d + 1) k_M_mark 0 0 62 [some (.ref 95), some (.int x1), some (.int x2), some (.int x3), o4, o5] [.int y0] (mk vi vl) post :=
  wr_ret (r := some (.int y0)) (Or.inr (Or.inl ⟨_, rfl, (by decide +kernel), (Or.inl rfl)⟩)) k1
theorem b_M_mark_63 {X : aX} {d : Nat} {post : aO} {vi : Nat → Nat → Int32} {vl : Nat → Nat → Int64} {x1 x2 x3 : Int32} {o4 o5 : Option Value} (k1 : CallOk X d 0 0 k_M_plays [.ref 95] (mk vi vl) (fun r N' => wp X (d + 1) k_M_mark 0 0 67 [some (.ref 95), some (.int x1), some (.int x2), some (.int x3), o4, o5] (pR r []) N' post)) : wp X (d + 1) k_M_mark 0 0 63 [some (.ref 95), some (.int x1), some (.int x2), some (.int x3), o4, o5] [] (mk vi vl) post :=
  wr_aload_n (q := 0) (by decide +kernel) rfl rfl <|
  wr_invV (a := 95) (ci := 4) (mid2 := 144) (idx := 145) (b1 := 0) (b2 := 0) (c1 := 0) (c2 := 0) (as := []) (st := []) pl_144 rfl (Nat.le_of_ble_eq_true rfl) rfl rfl lq_95 sq_95 (by decide) rfl lm_M_145 im_144 is_144 (by decide +kernel) k1
theorem b_M_mark_67 {X : aX} {d : Nat} {post : aO} {vi : Nat → Nat → Int32} {vl : Nat → Nat → Int64} {x1 x2 x3 : Int32} {o4 o5 : Option Value} (q1 : vp_in ((20 : Int32) + x1) 5976) (k1 : CallOk X d 0 0 k_M_yearsOf [.ref 95, .int (vi 96 ((20 : Int32) + x1).toNatClampNeg)] (mk vi vl) (fun r N' => wp X (d + 1) k_M_mark 0 0 80 [some (.ref 95), some (.int x1), some (.int x2), some (.int x3), o4, o5] (pR r []) N' post)) : wp X (d + 1) k_M_mark 0 0 67 [some (.ref 95), some (.int x1), some (.int x2), some (.int x3), o4, o5] [] (mk vi vl) post :=
  wr_aload_n (q := 0) (by decide +kernel) rfl rfl <|
  wr_aload_n (q := 0) (by decide +kernel) rfl rfl <|
  wr_getR2 (b := 96) (ci := 4) (k0 := 0) (idx := 7) lq_95 sq_95 (by decide) (by decide) lf_M_7 rfl vq_95_0 lq_96 (by decide +kernel) <|
  wr_bipush (n := 20) (v := (20 : Int32)) (by decide +kernel) (by decide) <|
  wr_iload_n (q := 1) (by decide +kernel) rfl rfl <|
  wr_iadd (by decide +kernel) <|
  wr_iald lq_96 sq_96 q1 (by decide +kernel) <|
  wr_invV (a := 95) (ci := 4) (mid2 := 152) (idx := 139) (b1 := 0) (b2 := 0) (c1 := 0) (c2 := 0) (as := [.int (vi 96 ((20 : Int32) + x1).toNatClampNeg)]) (st := []) pl_152 rfl (Nat.le_of_ble_eq_true rfl) rfl rfl lq_95 sq_95 (by decide) rfl lm_M_139 im_152 is_152 (by decide +kernel) k1
theorem b_M_mark_80 {X : aX} {d : Nat} {post : aO} {vi : Nat → Nat → Int32} {vl : Nat → Nat → Int64} {x1 x2 x3 y0 : Int32} {o4 o5 : Option Value} (q1 : vp_in ((28 : Int32) + x1) 5976) (k1 : CallOk X d 0 0 k_M_yearsOf [.ref 95, .int (vi 96 ((28 : Int32) + x1).toNatClampNeg)] (mk vi vl) (fun r N' => wp X (d + 1) k_M_mark 0 0 95 [some (.ref 95), some (.int x1), some (.int x2), some (.int x3), some (.int y0), o5] (pR r []) N' post)) : wp X (d + 1) k_M_mark 0 0 80 [some (.ref 95), some (.int x1), some (.int x2), some (.int x3), o4, o5] [.int y0] (mk vi vl) post :=
  wr_istore (i := 4) (by decide +kernel) (by decide) <|
  wr_aload_n (q := 0) (by decide +kernel) rfl rfl <|
  wr_aload_n (q := 0) (by decide +kernel) rfl rfl <|
  wr_getR2 (b := 96) (ci := 4) (k0 := 0) (idx := 7) lq_95 sq_95 (by decide) (by decide) lf_M_7 rfl vq_95_0 lq_96 (by decide +kernel) <|
  wr_bipush (n := 28) (v := (28 : Int32)) (by decide +kernel) (by decide) <|
  wr_iload_n (q := 1) (by decide +kernel) rfl rfl <|
  wr_iadd (by decide +kernel) <|
  wr_iald lq_96 sq_96 q1 (by decide +kernel) <|
  wr_invV (a := 95) (ci := 4) (mid2 := 152) (idx := 139) (b1 := 0) (b2 := 0) (c1 := 0) (c2 := 0) (as := [.int (vi 96 ((28 : Int32) + x1).toNatClampNeg)]) (st := []) pl_152 rfl (Nat.le_of_ble_eq_true rfl) rfl rfl lq_95 sq_95 (by decide) rfl lm_M_139 im_152 is_152 (by decide +kernel) k1
theorem b_M_mark_95 {X : aX} {d : Nat} {post : aO} {vi : Nat → Nat → Int32} {vl : Nat → Nat → Int64} {x1 x2 x3 x4 y0 : Int32} {o5 : Option Value} (k1 : swk (fun t => wp X (d + 1) k_M_mark 0 0 t [some (.ref 95), some (.int x1), some (.int x2), some (.int x3), some (.int x4), some (.int y0)] [] (mk vi vl) post) 184 x2 [((1 : Int32), 128), ((2 : Int32), 137), ((3 : Int32), 149), ((4 : Int32), 155)]) : wp X (d + 1) k_M_mark 0 0 95 [some (.ref 95), some (.int x1), some (.int x2), some (.int x3), some (.int x4), o5] [.int y0] (mk vi vl) post :=
  wr_istore (i := 5) (by decide +kernel) (by decide) <|
  wr_iload_n (q := 2) (by decide +kernel) rfl rfl <|
  wr_tsw (dflt := 86) (lo := 1) (hi := 4) (offs := #[30, 39, 51, 57]) (len := 30) (dt := 184) (ts := [((1 : Int32), 128), ((2 : Int32), 137), ((3 : Int32), 149), ((4 : Int32), 155)]) (by decide +kernel) (by decide +kernel) (by decide) (by decide) k1
theorem b_M_mark_128 {X : aX} {d : Nat} {post : aO} {vi : Nat → Nat → Int32} {vl : Nat → Nat → Int64} {x1 x2 x3 x4 x5 : Int32} (k1 : CallOk X d 0 0 k_M_ones [.int (x4 ||| x5)] (mk vi vl) (fun r N' => wp X (d + 1) k_M_mark 0 0 136 [some (.ref 95), some (.int x1), some (.int x2), some (.int x3), some (.int x4), some (.int x5)] (pR r []) N' post)) : wp X (d + 1) k_M_mark 0 0 128 [some (.ref 95), some (.int x1), some (.int x2), some (.int x3), some (.int x4), some (.int x5)] [] (mk vi vl) post :=
  wr_iload (i := 4) (by decide +kernel) rfl <|
  wr_iload (i := 5) (by decide +kernel) rfl <|
  wr_ior (by decide +kernel) <|
  wr_invS (mid2 := 153) (idx := 142) (b1 := 0) (b2 := 0) (c1 := 0) (c2 := 0) (as := [.int (x4 ||| x5)]) (st := []) pl_153 rfl (Nat.le_of_ble_eq_true rfl) rfl rfl lm_M_142 it_153 (by decide +kernel) k1
theorem b_M_mark_136 {X : aX} {d : Nat} {post : aO} {vi : Nat → Nat → Int32} {vl : Nat → Nat → Int64} {x1 x2 x3 x4 x5 y0 : Int32} (k1 : post (some (.int y0)) (mk vi vl)) : wp X (d + 1) k_M_mark 0 0 136 [some (.ref 95), some (.int x1), some (.int x2), some (.int x3), some (.int x4), some (.int x5)] [.int y0] (mk vi vl) post :=
  wr_ret (r := some (.int y0)) (Or.inr (Or.inl ⟨_, rfl, (by decide +kernel), (Or.inl rfl)⟩)) k1
theorem b_M_mark_137 {X : aX} {d : Nat} {post : aO} {vi : Nat → Nat → Int32} {vl : Nat → Nat → Int64} {x1 x2 x3 x4 x5 : Int32} (k1 : CallOk X d 0 0 k_M_yearsThat [.ref 95, .int (2 : Int32)] (mk vi vl) (fun r N' => wp X (d + 1) k_M_mark 0 0 144 [some (.ref 95), some (.int x1), some (.int x2), some (.int x3), some (.int x4), some (.int x5)] (pR r [.int x5]) N' post)) : wp X (d + 1) k_M_mark 0 0 137 [some (.ref 95), some (.int x1), some (.int x2), some (.int x3), some (.int x4), some (.int x5)] [] (mk vi vl) post :=
  wr_iload (i := 5) (by decide +kernel) rfl <|
  wr_aload_n (q := 0) (by decide +kernel) rfl rfl <|
  wr_iconst (n := 2) (v := (2 : Int32)) (by decide +kernel) (by decide) <|
  wr_invV (a := 95) (ci := 4) (mid2 := 155) (idx := 165) (b1 := 0) (b2 := 0) (c1 := 0) (c2 := 0) (as := [.int (2 : Int32)]) (st := [.int x5]) pl_155 rfl (Nat.le_of_ble_eq_true rfl) rfl rfl lq_95 sq_95 (by decide) rfl lm_M_165 im_155 is_155 (by decide +kernel) k1
theorem b_M_mark_144 {X : aX} {d : Nat} {post : aO} {vi : Nat → Nat → Int32} {vl : Nat → Nat → Int64} {x1 x2 x3 x4 x5 y0 y1 : Int32} (k1 : CallOk X d 0 0 k_M_ones [.int (y0 &&& y1)] (mk vi vl) (fun r N' => wp X (d + 1) k_M_mark 0 0 148 [some (.ref 95), some (.int x1), some (.int x2), some (.int x3), some (.int x4), some (.int x5)] (pR r []) N' post)) : wp X (d + 1) k_M_mark 0 0 144 [some (.ref 95), some (.int x1), some (.int x2), some (.int x3), some (.int x4), some (.int x5)] [.int y1, .int y0] (mk vi vl) post :=
  wr_iand (by decide +kernel) <|
  wr_invS (mid2 := 153) (idx := 142) (b1 := 0) (b2 := 0) (c1 := 0) (c2 := 0) (as := [.int (y0 &&& y1)]) (st := []) pl_153 rfl (Nat.le_of_ble_eq_true rfl) rfl rfl lm_M_142 it_153 (by decide +kernel) k1
theorem b_M_mark_148 {X : aX} {d : Nat} {post : aO} {vi : Nat → Nat → Int32} {vl : Nat → Nat → Int64} {x1 x2 x3 x4 x5 y0 : Int32} (k1 : post (some (.int y0)) (mk vi vl)) : wp X (d + 1) k_M_mark 0 0 148 [some (.ref 95), some (.int x1), some (.int x2), some (.int x3), some (.int x4), some (.int x5)] [.int y0] (mk vi vl) post :=
  wr_ret (r := some (.int y0)) (Or.inr (Or.inl ⟨_, rfl, (by decide +kernel), (Or.inl rfl)⟩)) k1
theorem b_M_mark_149 {X : aX} {d : Nat} {post : aO} {vi : Nat → Nat → Int32} {vl : Nat → Nat → Int64} {x1 x2 x3 x4 x5 : Int32} (k1 : CallOk X d 0 0 k_M_ones [.int x4] (mk vi vl) (fun r N' => wp X (d + 1) k_M_mark 0 0 154 [some (.ref 95), some (.int x1), some (.int x2), some (.int x3), some (.int x4), some (.int x5)] (pR r []) N' post)) : wp X (d + 1) k_M_mark 0 0 149 [some (.ref 95), some (.int x1), some (.int x2), some (.int x3), some (.int x4), some (.int x5)] [] (mk vi vl) post :=
  wr_iload (i := 4) (by decide +kernel) rfl <|
  wr_invS (mid2 := 153) (idx := 142) (b1 := 0) (b2 := 0) (c1 := 0) (c2 := 0) (as := [.int x4]) (st := []) pl_153 rfl (Nat.le_of_ble_eq_true rfl) rfl rfl lm_M_142 it_153 (by decide +kernel) k1
theorem b_M_mark_154 {X : aX} {d : Nat} {post : aO} {vi : Nat → Nat → Int32} {vl : Nat → Nat → Int64} {x1 x2 x3 x4 x5 y0 : Int32} (k1 : post (some (.int y0)) (mk vi vl)) : wp X (d + 1) k_M_mark 0 0 154 [some (.ref 95), some (.int x1), some (.int x2), some (.int x3), some (.int x4), some (.int x5)] [.int y0] (mk vi vl) post :=
  wr_ret (r := some (.int y0)) (Or.inr (Or.inl ⟨_, rfl, (by decide +kernel), (Or.inl rfl)⟩)) k1
theorem b_M_mark_155 {X : aX} {d : Nat} {post : aO} {vi : Nat → Nat → Int32} {vl : Nat → Nat → Int64} {x1 x2 x3 x4 x5 : Int32} (k1 : ¬ x4 = 0 → wp X (d + 1) k_M_mark 0 0 164 [some (.ref 95), some (.int x1), some (.int x2), some (.int x3), some (.int x4), some (.int x5)] [] (mk vi vl) post) (k2 : x4 = 0 → wp X (d + 1) k_M_mark 0 0 160 [some (.ref 95), some (.int x1), some (.int x2), some (.int x3), some (.int x4), some (.int x5)] [] (mk vi vl) post) : wp X (d + 1) k_M_mark 0 0 155 [some (.ref 95), some (.int x1), some (.int x2), some (.int x3), some (.int x4), some (.int x5)] [] (mk vi vl) post :=
  wr_iload (i := 4) (by decide +kernel) rfl <|
  wr_if_ne (off := 7) (t := 164) (by decide +kernel) (by decide) k1 k2
theorem b_M_mark_160 {X : aX} {d : Nat} {post : aO} {vi : Nat → Nat → Int32} {vl : Nat → Nat → Int64} {x1 x2 x3 x4 x5 : Int32} (k1 : wp X (d + 1) k_M_mark 0 0 165 [some (.ref 95), some (.int x1), some (.int x2), some (.int x3), some (.int x4), some (.int x5)] [.int (1 : Int32)] (mk vi vl) post) : wp X (d + 1) k_M_mark 0 0 160 [some (.ref 95), some (.int x1), some (.int x2), some (.int x3), some (.int x4), some (.int x5)] [] (mk vi vl) post :=
  wr_iconst (n := 1) (v := (1 : Int32)) (by decide +kernel) (by decide) <|
  wr_goto (off := 4) (t := 165) (by decide +kernel) (by decide) k1
theorem b_M_mark_164 {X : aX} {d : Nat} {post : aO} {vi : Nat → Nat → Int32} {vl : Nat → Nat → Int64} {x1 x2 x3 x4 x5 : Int32} (k1 : wp X (d + 1) k_M_mark 0 0 165 [some (.ref 95), some (.int x1), some (.int x2), some (.int x3), some (.int x4), some (.int x5)] [.int (0 : Int32)] (mk vi vl) post) : wp X (d + 1) k_M_mark 0 0 164 [some (.ref 95), some (.int x1), some (.int x2), some (.int x3), some (.int x4), some (.int x5)] [] (mk vi vl) post :=
  wr_iconst (n := 0) (v := (0 : Int32)) (by decide +kernel) (by decide) <|
  k1
theorem b_M_mark_165 {X : aX} {d : Nat} {post : aO} {vi : Nat → Nat → Int32} {vl : Nat → Nat → Int64} {x1 x2 x3 x4 x5 y0 : Int32} (k1 : ¬ x5 = 0 → wp X (d + 1) k_M_mark 0 0 174 [some (.ref 95), some (.int x1), some (.int x2), some (.int x3), some (.int x4), some (.int x5)] [.int y0] (mk vi vl) post) (k2 : x5 = 0 → wp X (d + 1) k_M_mark 0 0 170 [some (.ref 95), some (.int x1), some (.int x2), some (.int x3), some (.int x4), some (.int x5)] [.int y0] (mk vi vl) post) : wp X (d + 1) k_M_mark 0 0 165 [some (.ref 95), some (.int x1), some (.int x2), some (.int x3), some (.int x4), some (.int x5)] [.int y0] (mk vi vl) post :=
  wr_iload (i := 5) (by decide +kernel) rfl <|
  wr_if_ne (off := 7) (t := 174) (by decide +kernel) (by decide) k1 k2
theorem b_M_mark_170 {X : aX} {d : Nat} {post : aO} {vi : Nat → Nat → Int32} {vl : Nat → Nat → Int64} {x1 x2 x3 x4 x5 y0 : Int32} (k1 : wp X (d + 1) k_M_mark 0 0 175 [some (.ref 95), some (.int x1), some (.int x2), some (.int x3), some (.int x4), some (.int x5)] [.int (1 : Int32), .int y0] (mk vi vl) post) : wp X (d + 1) k_M_mark 0 0 170 [some (.ref 95), some (.int x1), some (.int x2), some (.int x3), some (.int x4), some (.int x5)] [.int y0] (mk vi vl) post :=
  wr_iconst (n := 1) (v := (1 : Int32)) (by decide +kernel) (by decide) <|
  wr_goto (off := 4) (t := 175) (by decide +kernel) (by decide) k1
theorem b_M_mark_174 {X : aX} {d : Nat} {post : aO} {vi : Nat → Nat → Int32} {vl : Nat → Nat → Int64} {x1 x2 x3 x4 x5 y0 : Int32} (k1 : wp X (d + 1) k_M_mark 0 0 175 [some (.ref 95), some (.int x1), some (.int x2), some (.int x3), some (.int x4), some (.int x5)] [.int (0 : Int32), .int y0] (mk vi vl) post) : wp X (d + 1) k_M_mark 0 0 174 [some (.ref 95), some (.int x1), some (.int x2), some (.int x3), some (.int x4), some (.int x5)] [.int y0] (mk vi vl) post :=
  wr_iconst (n := 0) (v := (0 : Int32)) (by decide +kernel) (by decide) <|
  k1
theorem b_M_mark_175 {X : aX} {d : Nat} {post : aO} {vi : Nat → Nat → Int32} {vl : Nat → Nat → Int64} {x1 x2 x3 x4 x5 y0 y1 : Int32} (k1 : y0 = y1 → wp X (d + 1) k_M_mark 0 0 182 [some (.ref 95), some (.int x1), some (.int x2), some (.int x3), some (.int x4), some (.int x5)] [] (mk vi vl) post) (k2 : ¬ y0 = y1 → wp X (d + 1) k_M_mark 0 0 178 [some (.ref 95), some (.int x1), some (.int x2), some (.int x3), some (.int x4), some (.int x5)] [] (mk vi vl) post) : wp X (d + 1) k_M_mark 0 0 175 [some (.ref 95), some (.int x1), some (.int x2), some (.int x3), some (.int x4), some (.int x5)] [.int y1, .int y0] (mk vi vl) post :=
  wr_icmp_eq (off := 7) (t := 182) (by decide +kernel) (by decide) k1 k2
theorem b_M_mark_178 {X : aX} {d : Nat} {post : aO} {vi : Nat → Nat → Int32} {vl : Nat → Nat → Int64} {x1 x2 x3 x4 x5 : Int32} (k1 : wp X (d + 1) k_M_mark 0 0 183 [some (.ref 95), some (.int x1), some (.int x2), some (.int x3), some (.int x4), some (.int x5)] [.int (1 : Int32)] (mk vi vl) post) : wp X (d + 1) k_M_mark 0 0 178 [some (.ref 95), some (.int x1), some (.int x2), some (.int x3), some (.int x4), some (.int x5)] [] (mk vi vl) post :=
  wr_iconst (n := 1) (v := (1 : Int32)) (by decide +kernel) (by decide) <|
  wr_goto (off := 4) (t := 183) (by decide +kernel) (by decide) k1
theorem b_M_mark_182 {X : aX} {d : Nat} {post : aO} {vi : Nat → Nat → Int32} {vl : Nat → Nat → Int64} {x1 x2 x3 x4 x5 : Int32} (k1 : wp X (d + 1) k_M_mark 0 0 183 [some (.ref 95), some (.int x1), some (.int x2), some (.int x3), some (.int x4), some (.int x5)] [.int (0 : Int32)] (mk vi vl) post) : wp X (d + 1) k_M_mark 0 0 182 [some (.ref 95), some (.int x1), some (.int x2), some (.int x3), some (.int x4), some (.int x5)] [] (mk vi vl) post :=
  wr_iconst (n := 0) (v := (0 : Int32)) (by decide +kernel) (by decide) <|
  k1
theorem b_M_mark_183 {X : aX} {d : Nat} {post : aO} {vi : Nat → Nat → Int32} {vl : Nat → Nat → Int64} {x1 x2 x3 x4 x5 y0 : Int32} (k1 : post (some (.int y0)) (mk vi vl)) : wp X (d + 1) k_M_mark 0 0 183 [some (.ref 95), some (.int x1), some (.int x2), some (.int x3), some (.int x4), some (.int x5)] [.int y0] (mk vi vl) post :=
  wr_ret (r := some (.int y0)) (Or.inr (Or.inl ⟨_, rfl, (by decide +kernel), (Or.inl rfl)⟩)) k1
theorem b_M_mark_184 {X : aX} {d : Nat} {post : aO} {vi : Nat → Nat → Int32} {vl : Nat → Nat → Int64} {x1 x2 x3 x4 x5 : Int32} (k1 : CallOk X d 0 0 k_M_yearsThat [.ref 95, .int (0 : Int32)] (mk vi vl) (fun r N' => wp X (d + 1) k_M_mark 0 0 191 [some (.ref 95), some (.int x1), some (.int x2), some (.int x3), some (.int x4), some (.int x5)] (pR r [.int x5]) N' post)) : wp X (d + 1) k_M_mark 0 0 184 [some (.ref 95), some (.int x1), some (.int x2), some (.int x3), some (.int x4), some (.int x5)] [] (mk vi vl) post :=
  wr_iload (i := 5) (by decide +kernel) rfl <|
  wr_aload_n (q := 0) (by decide +kernel) rfl rfl <|
  wr_iconst (n := 0) (v := (0 : Int32)) (by decide +kernel) (by decide) <|
  wr_invV (a := 95) (ci := 4) (mid2 := 155) (idx := 165) (b1 := 0) (b2 := 0) (c1 := 0) (c2 := 0) (as := [.int (0 : Int32)]) (st := [.int x5]) pl_155 rfl (Nat.le_of_ble_eq_true rfl) rfl rfl lq_95 sq_95 (by decide) rfl lm_M_165 im_155 is_155 (by decide +kernel) k1
theorem b_M_mark_191 {X : aX} {d : Nat} {post : aO} {vi : Nat → Nat → Int32} {vl : Nat → Nat → Int64} {x1 x2 x3 x4 x5 y0 y1 : Int32} (k1 : CallOk X d 0 0 k_M_ones [.int (y0 &&& y1)] (mk vi vl) (fun r N' => wp X (d + 1) k_M_mark 0 0 195 [some (.ref 95), some (.int x1), some (.int x2), some (.int x3), some (.int x4), some (.int x5)] (pR r []) N' post)) : wp X (d + 1) k_M_mark 0 0 191 [some (.ref 95), some (.int x1), some (.int x2), some (.int x3), some (.int x4), some (.int x5)] [.int y1, .int y0] (mk vi vl) post :=
  wr_iand (by decide +kernel) <|
  wr_invS (mid2 := 153) (idx := 142) (b1 := 0) (b2 := 0) (c1 := 0) (c2 := 0) (as := [.int (y0 &&& y1)]) (st := []) pl_153 rfl (Nat.le_of_ble_eq_true rfl) rfl rfl lm_M_142 it_153 (by decide +kernel) k1
theorem b_M_mark_195 {X : aX} {d : Nat} {post : aO} {vi : Nat → Nat → Int32} {vl : Nat → Nat → Int64} {x1 x2 x3 x4 x5 y0 : Int32} (k1 : post (some (.int y0)) (mk vi vl)) : wp X (d + 1) k_M_mark 0 0 195 [some (.ref 95), some (.int x1), some (.int x2), some (.int x3), some (.int x4), some (.int x5)] [.int y0] (mk vi vl) post :=
  wr_ret (r := some (.int y0)) (Or.inr (Or.inl ⟨_, rfl, (by decide +kernel), (Or.inl rfl)⟩)) k1
