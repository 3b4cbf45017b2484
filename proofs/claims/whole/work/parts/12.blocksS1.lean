theorem b_S_row_0 {X : aX} {d : Nat} {post : aO} {vi : Nat → Nat → Int32} {vl : Nat → Nat → Int64} {x1 x2 : Int32} (k1 : CallOk X d 0 0 k_S_isRow [.int x1] (mk vi vl) (fun r N' => wp X (d + 1) k_S_row 0 0 4 [some (.ref 0), some (.int x1), some (.int x2)] (pR r []) N' post)) : wp X (d + 1) k_S_row 0 0 0 [some (.ref 0), some (.int x1), some (.int x2)] [] (mk vi vl) post :=
  wr_iload_n (q := 1) (by decide +kernel) rfl rfl <|
  wr_invS (mid2 := 7) (idx := 60) (b1 := 0) (b2 := 0) (c1 := 0) (c2 := 0) (as := [.int x1]) (st := []) pl_7 rfl (Nat.le_of_ble_eq_true rfl) rfl rfl lm_S_60 it_7 (by decide +kernel) k1
theorem b_S_row_4 {X : aX} {d : Nat} {post : aO} {vi : Nat → Nat → Int32} {vl : Nat → Nat → Int64} {x1 x2 y0 : Int32} (k1 : y0 = 0 → wp X (d + 1) k_S_row 0 0 13 [some (.ref 0), some (.int x1), some (.int x2)] [] (mk vi vl) post) (k2 : ¬ y0 = 0 → wp X (d + 1) k_S_row 0 0 7 [some (.ref 0), some (.int x1), some (.int x2)] [] (mk vi vl) post) : wp X (d + 1) k_S_row 0 0 4 [some (.ref 0), some (.int x1), some (.int x2)] [.int y0] (mk vi vl) post :=
  wr_if_eq (off := 9) (t := 13) (by decide +kernel) (by decide) k1 k2
theorem b_S_row_7 {X : aX} {d : Nat} {post : aO} {vi : Nat → Nat → Int32} {vl : Nat → Nat → Int64} {x1 x2 : Int32} (k1 : x2 ≤ (40 : Int32) → wp X (d + 1) k_S_row 0 0 15 [some (.ref 0), some (.int x1), some (.int x2)] [] (mk vi vl) post) (k2 : ¬ x2 ≤ (40 : Int32) → wp X (d + 1) k_S_row 0 0 13 [some (.ref 0), some (.int x1), some (.int x2)] [] (mk vi vl) post) : wp X (d + 1) k_S_row 0 0 7 [some (.ref 0), some (.int x1), some (.int x2)] [] (mk vi vl) post :=
  wr_iload_n (q := 2) (by decide +kernel) rfl rfl <|
  wr_bipush (n := 40) (v := (40 : Int32)) (by decide +kernel) (by decide) <|
  wr_icmp_le (off := 5) (t := 15) (by decide +kernel) (by decide) k1 k2
theorem b_S_row_13 {X : aX} {d : Nat} {post : aO} {vi : Nat → Nat → Int32} {vl : Nat → Nat → Int64} {x1 x2 : Int32} (k1 : post (some (.int (-1 : Int32))) (mk vi vl)) : wp X (d + 1) k_S_row 0 0 13 [some (.ref 0), some (.int x1), some (.int x2)] [] (mk vi vl) post :=
  wr_iconst (n := -1) (v := (-1 : Int32)) (by decide +kernel) (by decide) <|
  wr_ret (r := some (.int (-1 : Int32))) (Or.inr (Or.inl ⟨_, rfl, (by decide +kernel), (Or.inl rfl)⟩)) k1
theorem b_S_row_15 {X : aX} {d : Nat} {post : aO} {vi : Nat → Nat → Int32} {vl : Nat → Nat → Int64} {x1 x2 : Int32} (k1 : 0 ≤ x2 → wp X (d + 1) k_S_row 0 0 25 [some (.ref 0), some (.int x1), some (.int x2)] [] (mk vi vl) post) (k2 : ¬ 0 ≤ x2 → wp X (d + 1) k_S_row 0 0 19 [some (.ref 0), some (.int x1), some (.int x2)] [] (mk vi vl) post) : wp X (d + 1) k_S_row 0 0 15 [some (.ref 0), some (.int x1), some (.int x2)] [] (mk vi vl) post :=
  wr_iload_n (q := 2) (by decide +kernel) rfl rfl <|
  wr_if_ge (off := 9) (t := 25) (by decide +kernel) (by decide) k1 k2
theorem b_S_row_19 {X : aX} {d : Nat} {post : aO} {vi : Nat → Nat → Int32} {vl : Nat → Nat → Int64} {x1 x2 : Int32} (k1 : CallOk X d 0 0 k_S_refuse [.ref 0, .int (5 : Int32)] (mk vi vl) (fun r N' => wp X (d + 1) k_S_row 0 0 24 [some (.ref 0), some (.int x1), some (.int x2)] (pR r []) N' post)) : wp X (d + 1) k_S_row 0 0 19 [some (.ref 0), some (.int x1), some (.int x2)] [] (mk vi vl) post :=
  wr_aload_n (q := 0) (by decide +kernel) rfl rfl <|
  wr_iconst (n := 5) (v := (5 : Int32)) (by decide +kernel) (by decide) <|
  wr_invV (a := 0) (ci := 3) (mid2 := 8) (idx := 64) (b1 := 0) (b2 := 0) (c1 := 0) (c2 := 0) (as := [.int (5 : Int32)]) (st := []) pl_8 rfl (Nat.le_of_ble_eq_true rfl) rfl rfl lq_0 sq_0 (by decide) rfl lm_S_64 im_8 is_8 (by decide +kernel) k1
theorem b_S_row_24 {X : aX} {d : Nat} {post : aO} {vi : Nat → Nat → Int32} {vl : Nat → Nat → Int64} {x1 x2 y0 : Int32} (k1 : post (some (.int y0)) (mk vi vl)) : wp X (d + 1) k_S_row 0 0 24 [some (.ref 0), some (.int x1), some (.int x2)] [.int y0] (mk vi vl) post :=
  wr_ret (r := some (.int y0)) (Or.inr (Or.inl ⟨_, rfl, (by decide +kernel), (Or.inl rfl)⟩)) k1
theorem b_S_row_25 {X : aX} {d : Nat} {post : aO} {vi : Nat → Nat → Int32} {vl : Nat → Nat → Int64} {x1 x2 : Int32} (q1 : vp_in x1 6) (k1 : CallOk X d 0 0 k_R_begin [.ref (42 + 2 * x1.toNatClampNeg), .int x2, .int (0 : Int32)] (mk vi vl) (fun r N' => wp X (d + 1) k_S_row 0 0 36 [some (.ref 0), some (.int x1), some (.int x2)] (pR r []) N' post)) : wp X (d + 1) k_S_row 0 0 25 [some (.ref 0), some (.int x1), some (.int x2)] [] (mk vi vl) post :=
  wr_aload_n (q := 0) (by decide +kernel) rfl rfl <|
  wr_getR2 (b := 1) (ci := 3) (k0 := 0) (idx := 11) lq_0 sq_0 (by decide) (by decide) lf_S_11 rfl vq_0_0 lq_1 (by decide +kernel) <|
  wr_iload_n (q := 1) (by decide +kernel) rfl rfl <|
  wr_aald2 (b := 42 + 2 * x1.toNatClampNeg) lq_1 sq_1 (Or.inl rfl) q1 (rows_v (vin_lt q1)) (rw_lt0 (rows_i (vin_lt q1))) (by decide +kernel) <|
  wr_iload_n (q := 2) (by decide +kernel) rfl rfl <|
  wr_iconst (n := 0) (v := (0 : Int32)) (by decide +kernel) (by decide) <|
  wr_invV (a := 42 + 2 * x1.toNatClampNeg) (ci := 2) (mid2 := 9) (idx := 68) (b1 := 0) (b2 := 0) (c1 := 0) (c2 := 0) (as := [.int x2, .int (0 : Int32)]) (st := []) pl_9 rfl (Nat.le_of_ble_eq_true rfl) rfl rfl (rw_lt0 (rows_i (vin_lt q1))) (rw_s0 (rows_i (vin_lt q1))) (by decide) rfl lm_S_68 im_9 is_9 (by decide +kernel) k1
theorem b_S_row_36 {X : aX} {d : Nat} {post : aO} {vi : Nat → Nat → Int32} {vl : Nat → Nat → Int64} {x1 x2 : Int32} (k1 : post (some (.int x2)) (mk vi vl)) : wp X (d + 1) k_S_row 0 0 36 [some (.ref 0), some (.int x1), some (.int x2)] [] (mk vi vl) post :=
  wr_iload_n (q := 2) (by decide +kernel) rfl rfl <|
  wr_ret (r := some (.int x2)) (Or.inr (Or.inl ⟨_, rfl, (by decide +kernel), (Or.inl rfl)⟩)) k1
theorem b_S_isRow_0 {X : aX} {d : Nat} {post : aO} {vi : Nat → Nat → Int32} {vl : Nat → Nat → Int64} {x0 : Int32} (k1 : x0 < 0 → wp X (d + 1) k_S_isRow 0 0 14 [some (.int x0)] [] (mk vi vl) post) (k2 : ¬ x0 < 0 → wp X (d + 1) k_S_isRow 0 0 4 [some (.int x0)] [] (mk vi vl) post) : wp X (d + 1) k_S_isRow 0 0 0 [some (.int x0)] [] (mk vi vl) post :=
  wr_iload_n (q := 0) (by decide +kernel) rfl rfl <|
  wr_if_lt (off := 13) (t := 14) (by decide +kernel) (by decide) k1 k2
theorem b_S_isRow_4 {X : aX} {d : Nat} {post : aO} {vi : Nat → Nat → Int32} {vl : Nat → Nat → Int64} {x0 : Int32} (k1 : (6 : Int32) ≤ x0 → wp X (d + 1) k_S_isRow 0 0 14 [some (.int x0)] [] (mk vi vl) post) (k2 : ¬ (6 : Int32) ≤ x0 → wp X (d + 1) k_S_isRow 0 0 10 [some (.int x0)] [] (mk vi vl) post) : wp X (d + 1) k_S_isRow 0 0 4 [some (.int x0)] [] (mk vi vl) post :=
  wr_iload_n (q := 0) (by decide +kernel) rfl rfl <|
  wr_bipush (n := 6) (v := (6 : Int32)) (by decide +kernel) (by decide) <|
  wr_icmp_ge (off := 7) (t := 14) (by decide +kernel) (by decide) k1 k2
theorem b_S_isRow_10 {X : aX} {d : Nat} {post : aO} {vi : Nat → Nat → Int32} {vl : Nat → Nat → Int64} {x0 : Int32} (k1 : wp X (d + 1) k_S_isRow 0 0 15 [some (.int x0)] [.int (1 : Int32)] (mk vi vl) post) : wp X (d + 1) k_S_isRow 0 0 10 [some (.int x0)] [] (mk vi vl) post :=
  wr_iconst (n := 1) (v := (1 : Int32)) (by decide +kernel) (by decide) <|
  wr_goto (off := 4) (t := 15) (by decide +kernel) (by decide) k1
theorem b_S_isRow_14 {X : aX} {d : Nat} {post : aO} {vi : Nat → Nat → Int32} {vl : Nat → Nat → Int64} {x0 : Int32} (k1 : wp X (d + 1) k_S_isRow 0 0 15 [some (.int x0)] [.int (0 : Int32)] (mk vi vl) post) : wp X (d + 1) k_S_isRow 0 0 14 [some (.int x0)] [] (mk vi vl) post :=
  wr_iconst (n := 0) (v := (0 : Int32)) (by decide +kernel) (by decide) <|
  k1
theorem b_S_isRow_15 {X : aX} {d : Nat} {post : aO} {vi : Nat → Nat → Int32} {vl : Nat → Nat → Int64} {x0 y0 : Int32} (q1 : y0 = 0 ∨ y0 = 1) (k1 : post (some (.int y0)) (mk vi vl)) : wp X (d + 1) k_S_isRow 0 0 15 [some (.int x0)] [.int y0] (mk vi vl) post :=
  wr_ret (r := some (.int y0)) (Or.inr (Or.inl ⟨_, rfl, (by decide +kernel), (Or.inr ⟨rfl, q1⟩)⟩)) k1
theorem b_S_refuse_0 {X : aX} {d : Nat} {post : aO} {vi : Nat → Nat → Int32} {vl : Nat → Nat → Int64} {x1 : Int32} (k1 : x1 < (1 : Int32) → wp X (d + 1) k_S_refuse 0 0 25 [some (.ref 0), some (.int x1)] [] (mk vi vl) post) (k2 : ¬ x1 < (1 : Int32) → wp X (d + 1) k_S_refuse 0 0 5 [some (.ref 0), some (.int x1)] [] (mk vi vl) post) : wp X (d + 1) k_S_refuse 0 0 0 [some (.ref 0), some (.int x1)] [] (mk vi vl) post :=
  wr_iload_n (q := 1) (by decide +kernel) rfl rfl <|
  wr_iconst (n := 1) (v := (1 : Int32)) (by decide +kernel) (by decide) <|
  wr_icmp_lt (off := 23) (t := 25) (by decide +kernel) (by decide) k1 k2
theorem b_S_refuse_5 {X : aX} {d : Nat} {post : aO} {vi : Nat → Nat → Int32} {vl : Nat → Nat → Int64} {x1 : Int32} (k1 : (5 : Int32) < x1 → wp X (d + 1) k_S_refuse 0 0 25 [some (.ref 0), some (.int x1)] [] (mk vi vl) post) (k2 : ¬ (5 : Int32) < x1 → wp X (d + 1) k_S_refuse 0 0 10 [some (.ref 0), some (.int x1)] [] (mk vi vl) post) : wp X (d + 1) k_S_refuse 0 0 5 [some (.ref 0), some (.int x1)] [] (mk vi vl) post :=
  wr_iload_n (q := 1) (by decide +kernel) rfl rfl <|
  wr_iconst (n := 5) (v := (5 : Int32)) (by decide +kernel) (by decide) <|
  wr_icmp_gt (off := 18) (t := 25) (by decide +kernel) (by decide) k1 k2
theorem b_S_refuse_10 {X : aX} {d : Nat} {post : aO} {vi : Nat → Nat → Int32} {vl : Nat → Nat → Int64} {x1 : Int32} (q1 : vp_in x1 6) (q2 : vp_in x1 6) (k1 : ∀ w, w = up2 vi 41 x1.toNatClampNeg ((vi 41 x1.toNatClampNeg) + (1 : Int32)) → wp X (d + 1) k_S_refuse 0 0 20 [some (.ref 0), some (.int x1)] [] (mk w vl) post) : wp X (d + 1) k_S_refuse 0 0 10 [some (.ref 0), some (.int x1)] [] (mk vi vl) post :=
  wr_aload_n (q := 0) (by decide +kernel) rfl rfl <|
  wr_getR2 (b := 41) (ci := 3) (k0 := 6) (idx := 39) lq_0 sq_0 (by decide) (by decide) lf_S_39 rfl vq_0_6 lq_41 (by decide +kernel) <|
  wr_iload_n (q := 1) (by decide +kernel) rfl rfl <|
  wr_dup2 (by decide +kernel) rfl rfl <|
  wr_iald lq_41 sq_41 q1 (by decide +kernel) <|
  wr_iconst (n := 1) (v := (1 : Int32)) (by decide +kernel) (by decide) <|
  wr_iadd (by decide +kernel) <|
  wr_iast lq_41 sq_41 q2 (by decide +kernel) <|
  k1 _ rfl
theorem b_S_refuse_20 {X : aX} {d : Nat} {post : aO} {vi : Nat → Nat → Int32} {vl : Nat → Nat → Int64} {x1 : Int32} (k1 : ∀ w, w = up2 vi 0 7 x1 → wp X (d + 1) k_S_refuse 0 0 25 [some (.ref 0), some (.int x1)] [] (mk w vl) post) : wp X (d + 1) k_S_refuse 0 0 20 [some (.ref 0), some (.int x1)] [] (mk vi vl) post :=
  wr_aload_n (q := 0) (by decide +kernel) rfl rfl <|
  wr_iload_n (q := 1) (by decide +kernel) rfl rfl <|
  wr_putI (ci := 3) (k0 := 7) (idx := 43) lq_0 sq_0 (by decide) (by decide) lf_S_43 rfl (by decide +kernel) <|
  k1 _ rfl
theorem b_S_refuse_25 {X : aX} {d : Nat} {post : aO} {vi : Nat → Nat → Int32} {vl : Nat → Nat → Int64} {x1 : Int32} (k1 : post (some (.int (-3 : Int32))) (mk vi vl)) : wp X (d + 1) k_S_refuse 0 0 25 [some (.ref 0), some (.int x1)] [] (mk vi vl) post :=
  wr_bipush (n := -3) (v := (-3 : Int32)) (by decide +kernel) (by decide) <|
  wr_ret (r := some (.int (-3 : Int32))) (Or.inr (Or.inl ⟨_, rfl, (by decide +kernel), (Or.inl rfl)⟩)) k1
theorem b_S_lay_0 {X : aX} {d : Nat} {post : aO} {vi : Nat → Nat → Int32} {vl : Nat → Nat → Int64} {x1 x2 x3 : Int32} (k1 : CallOk X d 0 0 k_S_isRow [.int x1] (mk vi vl) (fun r N' => wp X (d + 1) k_S_lay 0 0 4 [some (.ref 0), some (.int x1), some (.int x2), some (.int x3), none] (pR r []) N' post)) : wp X (d + 1) k_S_lay 0 0 0 [some (.ref 0), some (.int x1), some (.int x2), some (.int x3), none] [] (mk vi vl) post :=
  wr_iload_n (q := 1) (by decide +kernel) rfl rfl <|
  wr_invS (mid2 := 7) (idx := 60) (b1 := 0) (b2 := 0) (c1 := 0) (c2 := 0) (as := [.int x1]) (st := []) pl_7 rfl (Nat.le_of_ble_eq_true rfl) rfl rfl lm_S_60 it_7 (by decide +kernel) k1
theorem b_S_lay_4 {X : aX} {d : Nat} {post : aO} {vi : Nat → Nat → Int32} {vl : Nat → Nat → Int64} {x1 x2 x3 y0 : Int32} {o4 : Option Value} (k1 : ¬ y0 = 0 → wp X (d + 1) k_S_lay 0 0 9 [some (.ref 0), some (.int x1), some (.int x2), some (.int x3), o4] [] (mk vi vl) post) (k2 : y0 = 0 → wp X (d + 1) k_S_lay 0 0 7 [some (.ref 0), some (.int x1), some (.int x2), some (.int x3), o4] [] (mk vi vl) post) : wp X (d + 1) k_S_lay 0 0 4 [some (.ref 0), some (.int x1), some (.int x2), some (.int x3), o4] [.int y0] (mk vi vl) post :=
  wr_if_ne (off := 5) (t := 9) (by decide +kernel) (by decide) k1 k2
theorem b_S_lay_7 {X : aX} {d : Nat} {post : aO} {vi : Nat → Nat → Int32} {vl : Nat → Nat → Int64} {x1 x2 x3 : Int32} {o4 : Option Value} (k1 : post (some (.int (-1 : Int32))) (mk vi vl)) : wp X (d + 1) k_S_lay 0 0 7 [some (.ref 0), some (.int x1), some (.int x2), some (.int x3), o4] [] (mk vi vl) post :=
  wr_iconst (n := -1) (v := (-1 : Int32)) (by decide +kernel) (by decide) <|
  wr_ret (r := some (.int (-1 : Int32))) (Or.inr (Or.inl ⟨_, rfl, (by decide +kernel), (Or.inl rfl)⟩)) k1
theorem b_S_lay_9 {X : aX} {d : Nat} {post : aO} {vi : Nat → Nat → Int32} {vl : Nat → Nat → Int64} {x1 x2 x3 : Int32} {o4 : Option Value} (q1 : vp_in x1 6) (k1 : CallOk X d 0 0 k_S_refusePlace [.ref 0, .ref (42 + 2 * x1.toNatClampNeg), .int x2] (mk vi vl) (fun r N' => wp X (d + 1) k_S_lay 0 0 20 [some (.ref 0), some (.int x1), some (.int x2), some (.int x3), o4] (pR r []) N' post)) : wp X (d + 1) k_S_lay 0 0 9 [some (.ref 0), some (.int x1), some (.int x2), some (.int x3), o4] [] (mk vi vl) post :=
  wr_aload_n (q := 0) (by decide +kernel) rfl rfl <|
  wr_aload_n (q := 0) (by decide +kernel) rfl rfl <|
  wr_getR2 (b := 1) (ci := 3) (k0 := 0) (idx := 11) lq_0 sq_0 (by decide) (by decide) lf_S_11 rfl vq_0_0 lq_1 (by decide +kernel) <|
  wr_iload_n (q := 1) (by decide +kernel) rfl rfl <|
  wr_aald2 (b := 42 + 2 * x1.toNatClampNeg) lq_1 sq_1 (Or.inl rfl) q1 (rows_v (vin_lt q1)) (rw_lt0 (rows_i (vin_lt q1))) (by decide +kernel) <|
  wr_iload_n (q := 2) (by decide +kernel) rfl rfl <|
  wr_invV (a := 0) (ci := 3) (mid2 := 13) (idx := 72) (b1 := 0) (b2 := 0) (c1 := 0) (c2 := 0) (as := [.ref (42 + 2 * x1.toNatClampNeg), .int x2]) (st := []) pl_13 rfl (Nat.le_of_ble_eq_true rfl) rfl rfl lq_0 sq_0 (by decide) rfl lm_S_72 im_13 is_13 (by decide +kernel) k1
theorem b_S_lay_20 {X : aX} {d : Nat} {post : aO} {vi : Nat → Nat → Int32} {vl : Nat → Nat → Int64} {x1 x2 x3 y0 : Int32} {o4 : Option Value} (k1 : y0 = 0 → wp X (d + 1) k_S_lay 0 0 30 [some (.ref 0), some (.int x1), some (.int x2), some (.int x3), some (.int y0)] [] (mk vi vl) post) (k2 : ¬ y0 = 0 → wp X (d + 1) k_S_lay 0 0 27 [some (.ref 0), some (.int x1), some (.int x2), some (.int x3), some (.int y0)] [] (mk vi vl) post) : wp X (d + 1) k_S_lay 0 0 20 [some (.ref 0), some (.int x1), some (.int x2), some (.int x3), o4] [.int y0] (mk vi vl) post :=
  wr_istore (i := 4) (by decide +kernel) (by decide) <|
  wr_iload (i := 4) (by decide +kernel) rfl <|
  wr_if_eq (off := 6) (t := 30) (by decide +kernel) (by decide) k1 k2
theorem b_S_lay_27 {X : aX} {d : Nat} {post : aO} {vi : Nat → Nat → Int32} {vl : Nat → Nat → Int64} {x1 x2 x3 x4 : Int32} (k1 : post (some (.int x4)) (mk vi vl)) : wp X (d + 1) k_S_lay 0 0 27 [some (.ref 0), some (.int x1), some (.int x2), some (.int x3), some (.int x4)] [] (mk vi vl) post :=
  wr_iload (i := 4) (by decide +kernel) rfl <|
  wr_ret (r := some (.int x4)) (Or.inr (Or.inl ⟨_, rfl, (by decide +kernel), (Or.inl rfl)⟩)) k1
theorem b_S_lay_30 {X : aX} {d : Nat} {post : aO} {vi : Nat → Nat → Int32} {vl : Nat → Nat → Int64} {x1 x2 x3 x4 : Int32} (q1 : vp_in x1 6) (q2 : vp_in x2 (rl (42 + 2 * x1.toNatClampNeg))) (k1 : ∀ w, w = up2 vi 0 8 (vi ((42 + 2 * x1.toNatClampNeg) + 1) x2.toNatClampNeg) → wp X (d + 1) k_S_lay 0 0 45 [some (.ref 0), some (.int x1), some (.int x2), some (.int x3), some (.int x4)] [] (mk w vl) post) : wp X (d + 1) k_S_lay 0 0 30 [some (.ref 0), some (.int x1), some (.int x2), some (.int x3), some (.int x4)] [] (mk vi vl) post :=
  wr_aload_n (q := 0) (by decide +kernel) rfl rfl <|
  wr_aload_n (q := 0) (by decide +kernel) rfl rfl <|
  wr_getR2 (b := 1) (ci := 3) (k0 := 0) (idx := 11) lq_0 sq_0 (by decide) (by decide) lf_S_11 rfl vq_0_0 lq_1 (by decide +kernel) <|
  wr_iload_n (q := 1) (by decide +kernel) rfl rfl <|
  wr_aald2 (b := 42 + 2 * x1.toNatClampNeg) lq_1 sq_1 (Or.inl rfl) q1 (rows_v (vin_lt q1)) (rw_lt0 (rows_i (vin_lt q1))) (by decide +kernel) <|
  wr_getR2 (b := (42 + 2 * x1.toNatClampNeg) + 1) (ci := 2) (k0 := 0) (idx := 76) (rw_lt0 (rows_i (vin_lt q1))) (rw_s0 (rows_i (vin_lt q1))) (by decide) (by decide) lf_S_76 rfl (rw_v0 (rows_i (vin_lt q1))) (rw_lt1 (rows_i (vin_lt q1))) (by decide +kernel) <|
  wr_iload_n (q := 2) (by decide +kernel) rfl rfl <|
  wr_iald (rw_lt1 (rows_i (vin_lt q1))) (rw_s1 (rows_i (vin_lt q1))) q2 (by decide +kernel) <|
  wr_putI (ci := 3) (k0 := 8) (idx := 47) lq_0 sq_0 (by decide) (by decide) lf_S_47 rfl (by decide +kernel) <|
  k1 _ rfl
theorem b_S_lay_45 {X : aX} {d : Nat} {post : aO} {vi : Nat → Nat → Int32} {vl : Nat → Nat → Int64} {x1 x2 x3 x4 : Int32} (q1 : vp_in x1 6) (q2 : vp_in x2 (rl (42 + 2 * x1.toNatClampNeg))) (k1 : ∀ w, w = up2 vi ((42 + 2 * x1.toNatClampNeg) + 1) x2.toNatClampNeg x3 → wp X (d + 1) k_S_lay 0 0 57 [some (.ref 0), some (.int x1), some (.int x2), some (.int x3), some (.int x4)] [] (mk w vl) post) : wp X (d + 1) k_S_lay 0 0 45 [some (.ref 0), some (.int x1), some (.int x2), some (.int x3), some (.int x4)] [] (mk vi vl) post :=
  wr_aload_n (q := 0) (by decide +kernel) rfl rfl <|
  wr_getR2 (b := 1) (ci := 3) (k0 := 0) (idx := 11) lq_0 sq_0 (by decide) (by decide) lf_S_11 rfl vq_0_0 lq_1 (by decide +kernel) <|
  wr_iload_n (q := 1) (by decide +kernel) rfl rfl <|
  wr_aald2 (b := 42 + 2 * x1.toNatClampNeg) lq_1 sq_1 (Or.inl rfl) q1 (rows_v (vin_lt q1)) (rw_lt0 (rows_i (vin_lt q1))) (by decide +kernel) <|
  wr_getR2 (b := (42 + 2 * x1.toNatClampNeg) + 1) (ci := 2) (k0 := 0) (idx := 76) (rw_lt0 (rows_i (vin_lt q1))) (rw_s0 (rows_i (vin_lt q1))) (by decide) (by decide) lf_S_76 rfl (rw_v0 (rows_i (vin_lt q1))) (rw_lt1 (rows_i (vin_lt q1))) (by decide +kernel) <|
  wr_iload_n (q := 2) (by decide +kernel) rfl rfl <|
  wr_iload_n (q := 3) (by decide +kernel) rfl rfl <|
  wr_iast (rw_lt1 (rows_i (vin_lt q1))) (rw_s1 (rows_i (vin_lt q1))) q2 (by decide +kernel) <|
  k1 _ rfl
theorem b_S_lay_57 {X : aX} {d : Nat} {post : aO} {vi : Nat → Nat → Int32} {vl : Nat → Nat → Int64} {x1 x2 x3 x4 : Int32} (k1 : post (some (.int (1 : Int32))) (mk vi vl)) : wp X (d + 1) k_S_lay 0 0 57 [some (.ref 0), some (.int x1), some (.int x2), some (.int x3), some (.int x4)] [] (mk vi vl) post :=
  wr_iconst (n := 1) (v := (1 : Int32)) (by decide +kernel) (by decide) <|
  wr_ret (r := some (.int (1 : Int32))) (Or.inr (Or.inl ⟨_, rfl, (by decide +kernel), (Or.inl rfl)⟩)) k1
theorem b_S_refusePlace_0 {X : aX} {d : Nat} {post : aO} {vi : Nat → Nat → Int32} {vl : Nat → Nat → Int64} {v1 : Nat} {x2 : Int32} (k1 : CallOk X d 0 0 k_R_isMissing [.ref v1] (mk vi vl) (fun r N' => wp X (d + 1) k_S_refusePlace 0 0 4 [some (.ref 0), some (.ref v1), some (.int x2)] (pR r []) N' post)) (hv1 : isRw v1) : wp X (d + 1) k_S_refusePlace 0 0 0 [some (.ref 0), some (.ref v1), some (.int x2)] [] (mk vi vl) post :=
  wr_aload_n (q := 1) (by decide +kernel) rfl rfl <|
  wr_invV (a := v1) (ci := 2) (mid2 := 14) (idx := 79) (b1 := 0) (b2 := 0) (c1 := 0) (c2 := 0) (as := []) (st := []) pl_14 rfl (Nat.le_of_ble_eq_true rfl) rfl rfl (rw_lt0 hv1) (rw_s0 hv1) (by decide) rfl lm_S_79 im_14 is_14 (by decide +kernel) k1
theorem b_S_refusePlace_4 {X : aX} {d : Nat} {post : aO} {vi : Nat → Nat → Int32} {vl : Nat → Nat → Int64} {v1 : Nat} {x2 y0 : Int32} (k1 : y0 = 0 → wp X (d + 1) k_S_refusePlace 0 0 13 [some (.ref 0), some (.ref v1), some (.int x2)] [] (mk vi vl) post) (k2 : ¬ y0 = 0 → wp X (d + 1) k_S_refusePlace 0 0 7 [some (.ref 0), some (.ref v1), some (.int x2)] [] (mk vi vl) post) : wp X (d + 1) k_S_refusePlace 0 0 4 [some (.ref 0), some (.ref v1), some (.int x2)] [.int y0] (mk vi vl) post :=
  wr_if_eq (off := 9) (t := 13) (by decide +kernel) (by decide) k1 k2
theorem b_S_refusePlace_7 {X : aX} {d : Nat} {post : aO} {vi : Nat → Nat → Int32} {vl : Nat → Nat → Int64} {v1 : Nat} {x2 : Int32} (k1 : CallOk X d 0 0 k_S_refuse [.ref 0, .int (1 : Int32)] (mk vi vl) (fun r N' => wp X (d + 1) k_S_refusePlace 0 0 12 [some (.ref 0), some (.ref v1), some (.int x2)] (pR r []) N' post)) : wp X (d + 1) k_S_refusePlace 0 0 7 [some (.ref 0), some (.ref v1), some (.int x2)] [] (mk vi vl) post :=
  wr_aload_n (q := 0) (by decide +kernel) rfl rfl <|
  wr_iconst (n := 1) (v := (1 : Int32)) (by decide +kernel) (by decide) <|
  wr_invV (a := 0) (ci := 3) (mid2 := 8) (idx := 64) (b1 := 0) (b2 := 0) (c1 := 0) (c2 := 0) (as := [.int (1 : Int32)]) (st := []) pl_8 rfl (Nat.le_of_ble_eq_true rfl) rfl rfl lq_0 sq_0 (by decide) rfl lm_S_64 im_8 is_8 (by decide +kernel) k1
theorem b_S_refusePlace_12 {X : aX} {d : Nat} {post : aO} {vi : Nat → Nat → Int32} {vl : Nat → Nat → Int64} {v1 : Nat} {x2 y0 : Int32} (k1 : post (some (.int y0)) (mk vi vl)) : wp X (d + 1) k_S_refusePlace 0 0 12 [some (.ref 0), some (.ref v1), some (.int x2)] [.int y0] (mk vi vl) post :=
  wr_ret (r := some (.int y0)) (Or.inr (Or.inl ⟨_, rfl, (by decide +kernel), (Or.inl rfl)⟩)) k1
theorem b_S_refusePlace_13 {X : aX} {d : Nat} {post : aO} {vi : Nat → Nat → Int32} {vl : Nat → Nat → Int64} {v1 : Nat} {x2 : Int32} (k1 : CallOk X d 0 0 k_R_has [.ref v1, .int x2] (mk vi vl) (fun r N' => wp X (d + 1) k_S_refusePlace 0 0 18 [some (.ref 0), some (.ref v1), some (.int x2)] (pR r []) N' post)) (hv1 : isRw v1) : wp X (d + 1) k_S_refusePlace 0 0 13 [some (.ref 0), some (.ref v1), some (.int x2)] [] (mk vi vl) post :=
  wr_aload_n (q := 1) (by decide +kernel) rfl rfl <|
  wr_iload_n (q := 2) (by decide +kernel) rfl rfl <|
  wr_invV (a := v1) (ci := 2) (mid2 := 15) (idx := 275) (b1 := 0) (b2 := 0) (c1 := 0) (c2 := 0) (as := [.int x2]) (st := []) pl_15 rfl (Nat.le_of_ble_eq_true rfl) rfl rfl (rw_lt0 hv1) (rw_s0 hv1) (by decide) rfl lm_S_275 im_15 is_15 (by decide +kernel) k1
theorem b_S_refusePlace_18 {X : aX} {d : Nat} {post : aO} {vi : Nat → Nat → Int32} {vl : Nat → Nat → Int64} {v1 : Nat} {x2 y0 : Int32} (k1 : ¬ y0 = 0 → wp X (d + 1) k_S_refusePlace 0 0 27 [some (.ref 0), some (.ref v1), some (.int x2)] [] (mk vi vl) post) (k2 : y0 = 0 → wp X (d + 1) k_S_refusePlace 0 0 21 [some (.ref 0), some (.ref v1), some (.int x2)] [] (mk vi vl) post) : wp X (d + 1) k_S_refusePlace 0 0 18 [some (.ref 0), some (.ref v1), some (.int x2)] [.int y0] (mk vi vl) post :=
  wr_if_ne (off := 9) (t := 27) (by decide +kernel) (by decide) k1 k2
theorem b_S_refusePlace_21 {X : aX} {d : Nat} {post : aO} {vi : Nat → Nat → Int32} {vl : Nat → Nat → Int64} {v1 : Nat} {x2 : Int32} (k1 : CallOk X d 0 0 k_S_refuse [.ref 0, .int (2 : Int32)] (mk vi vl) (fun r N' => wp X (d + 1) k_S_refusePlace 0 0 26 [some (.ref 0), some (.ref v1), some (.int x2)] (pR r []) N' post)) : wp X (d + 1) k_S_refusePlace 0 0 21 [some (.ref 0), some (.ref v1), some (.int x2)] [] (mk vi vl) post :=
  wr_aload_n (q := 0) (by decide +kernel) rfl rfl <|
  wr_iconst (n := 2) (v := (2 : Int32)) (by decide +kernel) (by decide) <|
  wr_invV (a := 0) (ci := 3) (mid2 := 8) (idx := 64) (b1 := 0) (b2 := 0) (c1 := 0) (c2 := 0) (as := [.int (2 : Int32)]) (st := []) pl_8 rfl (Nat.le_of_ble_eq_true rfl) rfl rfl lq_0 sq_0 (by decide) rfl lm_S_64 im_8 is_8 (by decide +kernel) k1
theorem b_S_refusePlace_26 {X : aX} {d : Nat} {post : aO} {vi : Nat → Nat → Int32} {vl : Nat → Nat → Int64} {v1 : Nat} {x2 y0 : Int32} (k1 : post (some (.int y0)) (mk vi vl)) : wp X (d + 1) k_S_refusePlace 0 0 26 [some (.ref 0), some (.ref v1), some (.int x2)] [.int y0] (mk vi vl) post :=
  wr_ret (r := some (.int y0)) (Or.inr (Or.inl ⟨_, rfl, (by decide +kernel), (Or.inl rfl)⟩)) k1
theorem b_S_refusePlace_27 {X : aX} {d : Nat} {post : aO} {vi : Nat → Nat → Int32} {vl : Nat → Nat → Int64} {v1 : Nat} {x2 : Int32} (k1 : post (some (.int (0 : Int32))) (mk vi vl)) : wp X (d + 1) k_S_refusePlace 0 0 27 [some (.ref 0), some (.ref v1), some (.int x2)] [] (mk vi vl) post :=
  wr_iconst (n := 0) (v := (0 : Int32)) (by decide +kernel) (by decide) <|
  wr_ret (r := some (.int (0 : Int32))) (Or.inr (Or.inl ⟨_, rfl, (by decide +kernel), (Or.inl rfl)⟩)) k1
theorem b_S_at_0 {X : aX} {d : Nat} {post : aO} {vi : Nat → Nat → Int32} {vl : Nat → Nat → Int64} {x1 x2 : Int32} (k1 : CallOk X d 0 0 k_S_isRow [.int x1] (mk vi vl) (fun r N' => wp X (d + 1) k_S_at 0 0 4 [some (.ref 0), some (.int x1), some (.int x2), none] (pR r []) N' post)) : wp X (d + 1) k_S_at 0 0 0 [some (.ref 0), some (.int x1), some (.int x2), none] [] (mk vi vl) post :=
  wr_iload_n (q := 1) (by decide +kernel) rfl rfl <|
  wr_invS (mid2 := 7) (idx := 60) (b1 := 0) (b2 := 0) (c1 := 0) (c2 := 0) (as := [.int x1]) (st := []) pl_7 rfl (Nat.le_of_ble_eq_true rfl) rfl rfl lm_S_60 it_7 (by decide +kernel) k1
theorem b_S_at_4 {X : aX} {d : Nat} {post : aO} {vi : Nat → Nat → Int32} {vl : Nat → Nat → Int64} {x1 x2 y0 : Int32} {o3 : Option Value} (k1 : ¬ y0 = 0 → wp X (d + 1) k_S_at 0 0 9 [some (.ref 0), some (.int x1), some (.int x2), o3] [] (mk vi vl) post) (k2 : y0 = 0 → wp X (d + 1) k_S_at 0 0 7 [some (.ref 0), some (.int x1), some (.int x2), o3] [] (mk vi vl) post) : wp X (d + 1) k_S_at 0 0 4 [some (.ref 0), some (.int x1), some (.int x2), o3] [.int y0] (mk vi vl) post :=
  wr_if_ne (off := 5) (t := 9) (by decide +kernel) (by decide) k1 k2
theorem b_S_at_7 {X : aX} {d : Nat} {post : aO} {vi : Nat → Nat → Int32} {vl : Nat → Nat → Int64} {x1 x2 : Int32} {o3 : Option Value} (k1 : post (some (.int (-1 : Int32))) (mk vi vl)) : wp X (d + 1) k_S_at 0 0 7 [some (.ref 0), some (.int x1), some (.int x2), o3] [] (mk vi vl) post :=
  wr_iconst (n := -1) (v := (-1 : Int32)) (by decide +kernel) (by decide) <|
  wr_ret (r := some (.int (-1 : Int32))) (Or.inr (Or.inl ⟨_, rfl, (by decide +kernel), (Or.inl rfl)⟩)) k1
theorem b_S_at_9 {X : aX} {d : Nat} {post : aO} {vi : Nat → Nat → Int32} {vl : Nat → Nat → Int64} {x1 x2 : Int32} {o3 : Option Value} (q1 : vp_in x1 6) (k1 : CallOk X d 0 0 k_S_refusePlace [.ref 0, .ref (42 + 2 * x1.toNatClampNeg), .int x2] (mk vi vl) (fun r N' => wp X (d + 1) k_S_at 0 0 20 [some (.ref 0), some (.int x1), some (.int x2), o3] (pR r []) N' post)) : wp X (d + 1) k_S_at 0 0 9 [some (.ref 0), some (.int x1), some (.int x2), o3] [] (mk vi vl) post :=
  wr_aload_n (q := 0) (by decide +kernel) rfl rfl <|
  wr_aload_n (q := 0) (by decide +kernel) rfl rfl <|
  wr_getR2 (b := 1) (ci := 3) (k0 := 0) (idx := 11) lq_0 sq_0 (by decide) (by decide) lf_S_11 rfl vq_0_0 lq_1 (by decide +kernel) <|
  wr_iload_n (q := 1) (by decide +kernel) rfl rfl <|
  wr_aald2 (b := 42 + 2 * x1.toNatClampNeg) lq_1 sq_1 (Or.inl rfl) q1 (rows_v (vin_lt q1)) (rw_lt0 (rows_i (vin_lt q1))) (by decide +kernel) <|
  wr_iload_n (q := 2) (by decide +kernel) rfl rfl <|
  wr_invV (a := 0) (ci := 3) (mid2 := 13) (idx := 72) (b1 := 0) (b2 := 0) (c1 := 0) (c2 := 0) (as := [.ref (42 + 2 * x1.toNatClampNeg), .int x2]) (st := []) pl_13 rfl (Nat.le_of_ble_eq_true rfl) rfl rfl lq_0 sq_0 (by decide) rfl lm_S_72 im_13 is_13 (by decide +kernel) k1
theorem b_S_at_20 {X : aX} {d : Nat} {post : aO} {vi : Nat → Nat → Int32} {vl : Nat → Nat → Int64} {x1 x2 y0 : Int32} {o3 : Option Value} (k1 : y0 = 0 → wp X (d + 1) k_S_at 0 0 27 [some (.ref 0), some (.int x1), some (.int x2), some (.int y0)] [] (mk vi vl) post) (k2 : ¬ y0 = 0 → wp X (d + 1) k_S_at 0 0 25 [some (.ref 0), some (.int x1), some (.int x2), some (.int y0)] [] (mk vi vl) post) : wp X (d + 1) k_S_at 0 0 20 [some (.ref 0), some (.int x1), some (.int x2), o3] [.int y0] (mk vi vl) post :=
  wr_istore_n (q := 3) (by decide +kernel) rfl (by decide) <|
  wr_iload_n (q := 3) (by decide +kernel) rfl rfl <|
  wr_if_eq (off := 5) (t := 27) (by decide +kernel) (by decide) k1 k2
theorem b_S_at_25 {X : aX} {d : Nat} {post : aO} {vi : Nat → Nat → Int32} {vl : Nat → Nat → Int64} {x1 x2 x3 : Int32} (k1 : post (some (.int x3)) (mk vi vl)) : wp X (d + 1) k_S_at 0 0 25 [some (.ref 0), some (.int x1), some (.int x2), some (.int x3)] [] (mk vi vl) post :=
  wr_iload_n (q := 3) (by decide +kernel) rfl rfl <|
  wr_ret (r := some (.int x3)) (Or.inr (Or.inl ⟨_, rfl, (by decide +kernel), (Or.inl rfl)⟩)) k1
theorem b_S_at_27 {X : aX} {d : Nat} {post : aO} {vi : Nat → Nat → Int32} {vl : Nat → Nat → Int64} {x1 x2 x3 : Int32} (q1 : vp_in x1 6) (q2 : vp_in x2 (rl (42 + 2 * x1.toNatClampNeg))) (k1 : ∀ w, w = up2 vi 0 8 (vi ((42 + 2 * x1.toNatClampNeg) + 1) x2.toNatClampNeg) → wp X (d + 1) k_S_at 0 0 42 [some (.ref 0), some (.int x1), some (.int x2), some (.int x3)] [] (mk w vl) post) : wp X (d + 1) k_S_at 0 0 27 [some (.ref 0), some (.int x1), some (.int x2), some (.int x3)] [] (mk vi vl) post :=
  wr_aload_n (q := 0) (by decide +kernel) rfl rfl <|
  wr_aload_n (q := 0) (by decide +kernel) rfl rfl <|
  wr_getR2 (b := 1) (ci := 3) (k0 := 0) (idx := 11) lq_0 sq_0 (by decide) (by decide) lf_S_11 rfl vq_0_0 lq_1 (by decide +kernel) <|
  wr_iload_n (q := 1) (by decide +kernel) rfl rfl <|
  wr_aald2 (b := 42 + 2 * x1.toNatClampNeg) lq_1 sq_1 (Or.inl rfl) q1 (rows_v (vin_lt q1)) (rw_lt0 (rows_i (vin_lt q1))) (by decide +kernel) <|
  wr_getR2 (b := (42 + 2 * x1.toNatClampNeg) + 1) (ci := 2) (k0 := 0) (idx := 76) (rw_lt0 (rows_i (vin_lt q1))) (rw_s0 (rows_i (vin_lt q1))) (by decide) (by decide) lf_S_76 rfl (rw_v0 (rows_i (vin_lt q1))) (rw_lt1 (rows_i (vin_lt q1))) (by decide +kernel) <|
  wr_iload_n (q := 2) (by decide +kernel) rfl rfl <|
  wr_iald (rw_lt1 (rows_i (vin_lt q1))) (rw_s1 (rows_i (vin_lt q1))) q2 (by decide +kernel) <|
  wr_putI (ci := 3) (k0 := 8) (idx := 47) lq_0 sq_0 (by decide) (by decide) lf_S_47 rfl (by decide +kernel) <|
  k1 _ rfl
theorem b_S_at_42 {X : aX} {d : Nat} {post : aO} {vi : Nat → Nat → Int32} {vl : Nat → Nat → Int64} {x1 x2 x3 : Int32} (k1 : post (some (.int (1 : Int32))) (mk vi vl)) : wp X (d + 1) k_S_at 0 0 42 [some (.ref 0), some (.int x1), some (.int x2), some (.int x3)] [] (mk vi vl) post :=
  wr_iconst (n := 1) (v := (1 : Int32)) (by decide +kernel) (by decide) <|
  wr_ret (r := some (.int (1 : Int32))) (Or.inr (Or.inl ⟨_, rfl, (by decide +kernel), (Or.inl rfl)⟩)) k1
theorem b_S_tear_0 {X : aX} {d : Nat} {post : aO} {vi : Nat → Nat → Int32} {vl : Nat → Nat → Int64} {x1 : Int32} (k1 : CallOk X d 0 0 k_S_isRow [.int x1] (mk vi vl) (fun r N' => wp X (d + 1) k_S_tear 0 0 4 [some (.ref 0), some (.int x1)] (pR r []) N' post)) : wp X (d + 1) k_S_tear 0 0 0 [some (.ref 0), some (.int x1)] [] (mk vi vl) post :=
  wr_iload_n (q := 1) (by decide +kernel) rfl rfl <|
  wr_invS (mid2 := 7) (idx := 60) (b1 := 0) (b2 := 0) (c1 := 0) (c2 := 0) (as := [.int x1]) (st := []) pl_7 rfl (Nat.le_of_ble_eq_true rfl) rfl rfl lm_S_60 it_7 (by decide +kernel) k1
theorem b_S_tear_4 {X : aX} {d : Nat} {post : aO} {vi : Nat → Nat → Int32} {vl : Nat → Nat → Int64} {x1 y0 : Int32} (k1 : ¬ y0 = 0 → wp X (d + 1) k_S_tear 0 0 9 [some (.ref 0), some (.int x1)] [] (mk vi vl) post) (k2 : y0 = 0 → wp X (d + 1) k_S_tear 0 0 7 [some (.ref 0), some (.int x1)] [] (mk vi vl) post) : wp X (d + 1) k_S_tear 0 0 4 [some (.ref 0), some (.int x1)] [.int y0] (mk vi vl) post :=
  wr_if_ne (off := 5) (t := 9) (by decide +kernel) (by decide) k1 k2
theorem b_S_tear_7 {X : aX} {d : Nat} {post : aO} {vi : Nat → Nat → Int32} {vl : Nat → Nat → Int64} {x1 : Int32} (k1 : post (some (.int (-1 : Int32))) (mk vi vl)) : wp X (d + 1) k_S_tear 0 0 7 [some (.ref 0), some (.int x1)] [] (mk vi vl) post :=
  wr_iconst (n := -1) (v := (-1 : Int32)) (by decide +kernel) (by decide) <|
  wr_ret (r := some (.int (-1 : Int32))) (Or.inr (Or.inl ⟨_, rfl, (by decide +kernel), (Or.inl rfl)⟩)) k1
theorem b_S_tear_9 {X : aX} {d : Nat} {post : aO} {vi : Nat → Nat → Int32} {vl : Nat → Nat → Int64} {x1 : Int32} (q1 : vp_in x1 6) (k1 : CallOk X d 0 0 k_R_isMissing [.ref (42 + 2 * x1.toNatClampNeg)] (mk vi vl) (fun r N' => wp X (d + 1) k_S_tear 0 0 18 [some (.ref 0), some (.int x1)] (pR r []) N' post)) : wp X (d + 1) k_S_tear 0 0 9 [some (.ref 0), some (.int x1)] [] (mk vi vl) post :=
  wr_aload_n (q := 0) (by decide +kernel) rfl rfl <|
  wr_getR2 (b := 1) (ci := 3) (k0 := 0) (idx := 11) lq_0 sq_0 (by decide) (by decide) lf_S_11 rfl vq_0_0 lq_1 (by decide +kernel) <|
  wr_iload_n (q := 1) (by decide +kernel) rfl rfl <|
  wr_aald2 (b := 42 + 2 * x1.toNatClampNeg) lq_1 sq_1 (Or.inl rfl) q1 (rows_v (vin_lt q1)) (rw_lt0 (rows_i (vin_lt q1))) (by decide +kernel) <|
  wr_invV (a := 42 + 2 * x1.toNatClampNeg) (ci := 2) (mid2 := 14) (idx := 79) (b1 := 0) (b2 := 0) (c1 := 0) (c2 := 0) (as := []) (st := []) pl_14 rfl (Nat.le_of_ble_eq_true rfl) rfl rfl (rw_lt0 (rows_i (vin_lt q1))) (rw_s0 (rows_i (vin_lt q1))) (by decide) rfl lm_S_79 im_14 is_14 (by decide +kernel) k1
theorem b_S_tear_18 {X : aX} {d : Nat} {post : aO} {vi : Nat → Nat → Int32} {vl : Nat → Nat → Int64} {x1 y0 : Int32} (k1 : y0 = 0 → wp X (d + 1) k_S_tear 0 0 27 [some (.ref 0), some (.int x1)] [] (mk vi vl) post) (k2 : ¬ y0 = 0 → wp X (d + 1) k_S_tear 0 0 21 [some (.ref 0), some (.int x1)] [] (mk vi vl) post) : wp X (d + 1) k_S_tear 0 0 18 [some (.ref 0), some (.int x1)] [.int y0] (mk vi vl) post :=
  wr_if_eq (off := 9) (t := 27) (by decide +kernel) (by decide) k1 k2
theorem b_S_tear_21 {X : aX} {d : Nat} {post : aO} {vi : Nat → Nat → Int32} {vl : Nat → Nat → Int64} {x1 : Int32} (k1 : CallOk X d 0 0 k_S_refuse [.ref 0, .int (1 : Int32)] (mk vi vl) (fun r N' => wp X (d + 1) k_S_tear 0 0 26 [some (.ref 0), some (.int x1)] (pR r []) N' post)) : wp X (d + 1) k_S_tear 0 0 21 [some (.ref 0), some (.int x1)] [] (mk vi vl) post :=
  wr_aload_n (q := 0) (by decide +kernel) rfl rfl <|
  wr_iconst (n := 1) (v := (1 : Int32)) (by decide +kernel) (by decide) <|
  wr_invV (a := 0) (ci := 3) (mid2 := 8) (idx := 64) (b1 := 0) (b2 := 0) (c1 := 0) (c2 := 0) (as := [.int (1 : Int32)]) (st := []) pl_8 rfl (Nat.le_of_ble_eq_true rfl) rfl rfl lq_0 sq_0 (by decide) rfl lm_S_64 im_8 is_8 (by decide +kernel) k1
theorem b_S_tear_26 {X : aX} {d : Nat} {post : aO} {vi : Nat → Nat → Int32} {vl : Nat → Nat → Int64} {x1 y0 : Int32} (k1 : post (some (.int y0)) (mk vi vl)) : wp X (d + 1) k_S_tear 0 0 26 [some (.ref 0), some (.int x1)] [.int y0] (mk vi vl) post :=
  wr_ret (r := some (.int y0)) (Or.inr (Or.inl ⟨_, rfl, (by decide +kernel), (Or.inl rfl)⟩)) k1
theorem b_S_tear_27 {X : aX} {d : Nat} {post : aO} {vi : Nat → Nat → Int32} {vl : Nat → Nat → Int64} {x1 : Int32} (q1 : vp_in x1 6) (k1 : CallOk X d 0 0 k_R_remove [.ref (42 + 2 * x1.toNatClampNeg)] (mk vi vl) (fun r N' => wp X (d + 1) k_S_tear 0 0 36 [some (.ref 0), some (.int x1)] (pR r []) N' post)) : wp X (d + 1) k_S_tear 0 0 27 [some (.ref 0), some (.int x1)] [] (mk vi vl) post :=
  wr_aload_n (q := 0) (by decide +kernel) rfl rfl <|
  wr_getR2 (b := 1) (ci := 3) (k0 := 0) (idx := 11) lq_0 sq_0 (by decide) (by decide) lf_S_11 rfl vq_0_0 lq_1 (by decide +kernel) <|
  wr_iload_n (q := 1) (by decide +kernel) rfl rfl <|
  wr_aald2 (b := 42 + 2 * x1.toNatClampNeg) lq_1 sq_1 (Or.inl rfl) q1 (rows_v (vin_lt q1)) (rw_lt0 (rows_i (vin_lt q1))) (by decide +kernel) <|
  wr_invV (a := 42 + 2 * x1.toNatClampNeg) (ci := 2) (mid2 := 18) (idx := 83) (b1 := 0) (b2 := 0) (c1 := 0) (c2 := 0) (as := []) (st := []) pl_18 rfl (Nat.le_of_ble_eq_true rfl) rfl rfl (rw_lt0 (rows_i (vin_lt q1))) (rw_s0 (rows_i (vin_lt q1))) (by decide) rfl lm_S_83 im_18 is_18 (by decide +kernel) k1
theorem b_S_tear_36 {X : aX} {d : Nat} {post : aO} {vi : Nat → Nat → Int32} {vl : Nat → Nat → Int64} {x1 : Int32} (k1 : post (some (.int (1 : Int32))) (mk vi vl)) : wp X (d + 1) k_S_tear 0 0 36 [some (.ref 0), some (.int x1)] [] (mk vi vl) post :=
  wr_iconst (n := 1) (v := (1 : Int32)) (by decide +kernel) (by decide) <|
  wr_ret (r := some (.int (1 : Int32))) (Or.inr (Or.inl ⟨_, rfl, (by decide +kernel), (Or.inl rfl)⟩)) k1
theorem b_S_copy_0 {X : aX} {d : Nat} {post : aO} {vi : Nat → Nat → Int32} {vl : Nat → Nat → Int64} {x1 x2 x3 x4 x5 : Int32} (k1 : CallOk X d 0 0 k_S_isRow [.int x1] (mk vi vl) (fun r N' => wp X (d + 1) k_S_copy 0 0 4 [some (.ref 0), some (.int x1), some (.int x2), some (.int x3), some (.int x4), some (.int x5)] (pR r []) N' post)) : wp X (d + 1) k_S_copy 0 0 0 [some (.ref 0), some (.int x1), some (.int x2), some (.int x3), some (.int x4), some (.int x5)] [] (mk vi vl) post :=
  wr_iload_n (q := 1) (by decide +kernel) rfl rfl <|
  wr_invS (mid2 := 7) (idx := 60) (b1 := 0) (b2 := 0) (c1 := 0) (c2 := 0) (as := [.int x1]) (st := []) pl_7 rfl (Nat.le_of_ble_eq_true rfl) rfl rfl lm_S_60 it_7 (by decide +kernel) k1
theorem b_S_copy_4 {X : aX} {d : Nat} {post : aO} {vi : Nat → Nat → Int32} {vl : Nat → Nat → Int64} {x1 x2 x3 x4 x5 y0 : Int32} (k1 : y0 = 0 → wp X (d + 1) k_S_copy 0 0 14 [some (.ref 0), some (.int x1), some (.int x2), some (.int x3), some (.int x4), some (.int x5)] [] (mk vi vl) post) (k2 : ¬ y0 = 0 → wp X (d + 1) k_S_copy 0 0 7 [some (.ref 0), some (.int x1), some (.int x2), some (.int x3), some (.int x4), some (.int x5)] [] (mk vi vl) post) : wp X (d + 1) k_S_copy 0 0 4 [some (.ref 0), some (.int x1), some (.int x2), some (.int x3), some (.int x4), some (.int x5)] [.int y0] (mk vi vl) post :=
  wr_if_eq (off := 10) (t := 14) (by decide +kernel) (by decide) k1 k2
theorem b_S_copy_7 {X : aX} {d : Nat} {post : aO} {vi : Nat → Nat → Int32} {vl : Nat → Nat → Int64} {x1 x2 x3 x4 x5 : Int32} (k1 : CallOk X d 0 0 k_S_isRow [.int x3] (mk vi vl) (fun r N' => wp X (d + 1) k_S_copy 0 0 11 [some (.ref 0), some (.int x1), some (.int x2), some (.int x3), some (.int x4), some (.int x5)] (pR r []) N' post)) : wp X (d + 1) k_S_copy 0 0 7 [some (.ref 0), some (.int x1), some (.int x2), some (.int x3), some (.int x4), some (.int x5)] [] (mk vi vl) post :=
  wr_iload_n (q := 3) (by decide +kernel) rfl rfl <|
  wr_invS (mid2 := 7) (idx := 60) (b1 := 0) (b2 := 0) (c1 := 0) (c2 := 0) (as := [.int x3]) (st := []) pl_7 rfl (Nat.le_of_ble_eq_true rfl) rfl rfl lm_S_60 it_7 (by decide +kernel) k1
theorem b_S_copy_11 {X : aX} {d : Nat} {post : aO} {vi : Nat → Nat → Int32} {vl : Nat → Nat → Int64} {x1 x2 x3 x4 x5 y0 : Int32} (k1 : ¬ y0 = 0 → wp X (d + 1) k_S_copy 0 0 16 [some (.ref 0), some (.int x1), some (.int x2), some (.int x3), some (.int x4), some (.int x5)] [] (mk vi vl) post) (k2 : y0 = 0 → wp X (d + 1) k_S_copy 0 0 14 [some (.ref 0), some (.int x1), some (.int x2), some (.int x3), some (.int x4), some (.int x5)] [] (mk vi vl) post) : wp X (d + 1) k_S_copy 0 0 11 [some (.ref 0), some (.int x1), some (.int x2), some (.int x3), some (.int x4), some (.int x5)] [.int y0] (mk vi vl) post :=
  wr_if_ne (off := 5) (t := 16) (by decide +kernel) (by decide) k1 k2
theorem b_S_copy_14 {X : aX} {d : Nat} {post : aO} {vi : Nat → Nat → Int32} {vl : Nat → Nat → Int64} {x1 x2 x3 x4 x5 : Int32} (k1 : post (some (.int (-1 : Int32))) (mk vi vl)) : wp X (d + 1) k_S_copy 0 0 14 [some (.ref 0), some (.int x1), some (.int x2), some (.int x3), some (.int x4), some (.int x5)] [] (mk vi vl) post :=
  wr_iconst (n := -1) (v := (-1 : Int32)) (by decide +kernel) (by decide) <|
  wr_ret (r := some (.int (-1 : Int32))) (Or.inr (Or.inl ⟨_, rfl, (by decide +kernel), (Or.inl rfl)⟩)) k1
theorem b_S_copy_16 {X : aX} {d : Nat} {post : aO} {vi : Nat → Nat → Int32} {vl : Nat → Nat → Int64} {x1 x2 x3 x4 x5 : Int32} (k1 : 0 ≤ x5 → wp X (d + 1) k_S_copy 0 0 27 [some (.ref 0), some (.int x1), some (.int x2), some (.int x3), some (.int x4), some (.int x5)] [] (mk vi vl) post) (k2 : ¬ 0 ≤ x5 → wp X (d + 1) k_S_copy 0 0 21 [some (.ref 0), some (.int x1), some (.int x2), some (.int x3), some (.int x4), some (.int x5)] [] (mk vi vl) post) : wp X (d + 1) k_S_copy 0 0 16 [some (.ref 0), some (.int x1), some (.int x2), some (.int x3), some (.int x4), some (.int x5)] [] (mk vi vl) post :=
  wr_iload (i := 5) (by decide +kernel) rfl <|
  wr_if_ge (off := 9) (t := 27) (by decide +kernel) (by decide) k1 k2
theorem b_S_copy_21 {X : aX} {d : Nat} {post : aO} {vi : Nat → Nat → Int32} {vl : Nat → Nat → Int64} {x1 x2 x3 x4 x5 : Int32} (k1 : CallOk X d 0 0 k_S_refuse [.ref 0, .int (5 : Int32)] (mk vi vl) (fun r N' => wp X (d + 1) k_S_copy 0 0 26 [some (.ref 0), some (.int x1), some (.int x2), some (.int x3), some (.int x4), some (.int x5)] (pR r []) N' post)) : wp X (d + 1) k_S_copy 0 0 21 [some (.ref 0), some (.int x1), some (.int x2), some (.int x3), some (.int x4), some (.int x5)] [] (mk vi vl) post :=
  wr_aload_n (q := 0) (by decide +kernel) rfl rfl <|
  wr_iconst (n := 5) (v := (5 : Int32)) (by decide +kernel) (by decide) <|
  wr_invV (a := 0) (ci := 3) (mid2 := 8) (idx := 64) (b1 := 0) (b2 := 0) (c1 := 0) (c2 := 0) (as := [.int (5 : Int32)]) (st := []) pl_8 rfl (Nat.le_of_ble_eq_true rfl) rfl rfl lq_0 sq_0 (by decide) rfl lm_S_64 im_8 is_8 (by decide +kernel) k1
theorem b_S_copy_26 {X : aX} {d : Nat} {post : aO} {vi : Nat → Nat → Int32} {vl : Nat → Nat → Int64} {x1 x2 x3 x4 x5 y0 : Int32} (k1 : post (some (.int y0)) (mk vi vl)) : wp X (d + 1) k_S_copy 0 0 26 [some (.ref 0), some (.int x1), some (.int x2), some (.int x3), some (.int x4), some (.int x5)] [.int y0] (mk vi vl) post :=
  wr_ret (r := some (.int y0)) (Or.inr (Or.inl ⟨_, rfl, (by decide +kernel), (Or.inl rfl)⟩)) k1
theorem b_S_copy_27 {X : aX} {d : Nat} {post : aO} {vi : Nat → Nat → Int32} {vl : Nat → Nat → Int64} {x1 x2 x3 x4 x5 : Int32} (q1 : vp_in x1 6) (k1 : CallOk X d 0 0 k_R_isMissing [.ref (42 + 2 * x1.toNatClampNeg)] (mk vi vl) (fun r N' => wp X (d + 1) k_S_copy 0 0 36 [some (.ref 0), some (.int x1), some (.int x2), some (.int x3), some (.int x4), some (.int x5)] (pR r []) N' post)) : wp X (d + 1) k_S_copy 0 0 27 [some (.ref 0), some (.int x1), some (.int x2), some (.int x3), some (.int x4), some (.int x5)] [] (mk vi vl) post :=
  wr_aload_n (q := 0) (by decide +kernel) rfl rfl <|
  wr_getR2 (b := 1) (ci := 3) (k0 := 0) (idx := 11) lq_0 sq_0 (by decide) (by decide) lf_S_11 rfl vq_0_0 lq_1 (by decide +kernel) <|
  wr_iload_n (q := 1) (by decide +kernel) rfl rfl <|
  wr_aald2 (b := 42 + 2 * x1.toNatClampNeg) lq_1 sq_1 (Or.inl rfl) q1 (rows_v (vin_lt q1)) (rw_lt0 (rows_i (vin_lt q1))) (by decide +kernel) <|
  wr_invV (a := 42 + 2 * x1.toNatClampNeg) (ci := 2) (mid2 := 14) (idx := 79) (b1 := 0) (b2 := 0) (c1 := 0) (c2 := 0) (as := []) (st := []) pl_14 rfl (Nat.le_of_ble_eq_true rfl) rfl rfl (rw_lt0 (rows_i (vin_lt q1))) (rw_s0 (rows_i (vin_lt q1))) (by decide) rfl lm_S_79 im_14 is_14 (by decide +kernel) k1
theorem b_S_copy_36 {X : aX} {d : Nat} {post : aO} {vi : Nat → Nat → Int32} {vl : Nat → Nat → Int64} {x1 x2 x3 x4 x5 y0 : Int32} (k1 : ¬ y0 = 0 → wp X (d + 1) k_S_copy 0 0 51 [some (.ref 0), some (.int x1), some (.int x2), some (.int x3), some (.int x4), some (.int x5)] [] (mk vi vl) post) (k2 : y0 = 0 → wp X (d + 1) k_S_copy 0 0 39 [some (.ref 0), some (.int x1), some (.int x2), some (.int x3), some (.int x4), some (.int x5)] [] (mk vi vl) post) : wp X (d + 1) k_S_copy 0 0 36 [some (.ref 0), some (.int x1), some (.int x2), some (.int x3), some (.int x4), some (.int x5)] [.int y0] (mk vi vl) post :=
  wr_if_ne (off := 15) (t := 51) (by decide +kernel) (by decide) k1 k2
theorem b_S_copy_39 {X : aX} {d : Nat} {post : aO} {vi : Nat → Nat → Int32} {vl : Nat → Nat → Int64} {x1 x2 x3 x4 x5 : Int32} (q1 : vp_in x3 6) (k1 : CallOk X d 0 0 k_R_isMissing [.ref (42 + 2 * x3.toNatClampNeg)] (mk vi vl) (fun r N' => wp X (d + 1) k_S_copy 0 0 48 [some (.ref 0), some (.int x1), some (.int x2), some (.int x3), some (.int x4), some (.int x5)] (pR r []) N' post)) : wp X (d + 1) k_S_copy 0 0 39 [some (.ref 0), some (.int x1), some (.int x2), some (.int x3), some (.int x4), some (.int x5)] [] (mk vi vl) post :=
  wr_aload_n (q := 0) (by decide +kernel) rfl rfl <|
  wr_getR2 (b := 1) (ci := 3) (k0 := 0) (idx := 11) lq_0 sq_0 (by decide) (by decide) lf_S_11 rfl vq_0_0 lq_1 (by decide +kernel) <|
  wr_iload_n (q := 3) (by decide +kernel) rfl rfl <|
  wr_aald2 (b := 42 + 2 * x3.toNatClampNeg) lq_1 sq_1 (Or.inl rfl) q1 (rows_v (vin_lt q1)) (rw_lt0 (rows_i (vin_lt q1))) (by decide +kernel) <|
  wr_invV (a := 42 + 2 * x3.toNatClampNeg) (ci := 2) (mid2 := 14) (idx := 79) (b1 := 0) (b2 := 0) (c1 := 0) (c2 := 0) (as := []) (st := []) pl_14 rfl (Nat.le_of_ble_eq_true rfl) rfl rfl (rw_lt0 (rows_i (vin_lt q1))) (rw_s0 (rows_i (vin_lt q1))) (by decide) rfl lm_S_79 im_14 is_14 (by decide +kernel) k1
theorem b_S_copy_48 {X : aX} {d : Nat} {post : aO} {vi : Nat → Nat → Int32} {vl : Nat → Nat → Int64} {x1 x2 x3 x4 x5 y0 : Int32} (k1 : y0 = 0 → wp X (d + 1) k_S_copy 0 0 57 [some (.ref 0), some (.int x1), some (.int x2), some (.int x3), some (.int x4), some (.int x5)] [] (mk vi vl) post) (k2 : ¬ y0 = 0 → wp X (d + 1) k_S_copy 0 0 51 [some (.ref 0), some (.int x1), some (.int x2), some (.int x3), some (.int x4), some (.int x5)] [] (mk vi vl) post) : wp X (d + 1) k_S_copy 0 0 48 [some (.ref 0), some (.int x1), some (.int x2), some (.int x3), some (.int x4), some (.int x5)] [.int y0] (mk vi vl) post :=
  wr_if_eq (off := 9) (t := 57) (by decide +kernel) (by decide) k1 k2
theorem b_S_copy_51 {X : aX} {d : Nat} {post : aO} {vi : Nat → Nat → Int32} {vl : Nat → Nat → Int64} {x1 x2 x3 x4 x5 : Int32} (k1 : CallOk X d 0 0 k_S_refuse [.ref 0, .int (1 : Int32)] (mk vi vl) (fun r N' => wp X (d + 1) k_S_copy 0 0 56 [some (.ref 0), some (.int x1), some (.int x2), some (.int x3), some (.int x4), some (.int x5)] (pR r []) N' post)) : wp X (d + 1) k_S_copy 0 0 51 [some (.ref 0), some (.int x1), some (.int x2), some (.int x3), some (.int x4), some (.int x5)] [] (mk vi vl) post :=
  wr_aload_n (q := 0) (by decide +kernel) rfl rfl <|
  wr_iconst (n := 1) (v := (1 : Int32)) (by decide +kernel) (by decide) <|
  wr_invV (a := 0) (ci := 3) (mid2 := 8) (idx := 64) (b1 := 0) (b2 := 0) (c1 := 0) (c2 := 0) (as := [.int (1 : Int32)]) (st := []) pl_8 rfl (Nat.le_of_ble_eq_true rfl) rfl rfl lq_0 sq_0 (by decide) rfl lm_S_64 im_8 is_8 (by decide +kernel) k1
theorem b_S_copy_56 {X : aX} {d : Nat} {post : aO} {vi : Nat → Nat → Int32} {vl : Nat → Nat → Int64} {x1 x2 x3 x4 x5 y0 : Int32} (k1 : post (some (.int y0)) (mk vi vl)) : wp X (d + 1) k_S_copy 0 0 56 [some (.ref 0), some (.int x1), some (.int x2), some (.int x3), some (.int x4), some (.int x5)] [.int y0] (mk vi vl) post :=
  wr_ret (r := some (.int y0)) (Or.inr (Or.inl ⟨_, rfl, (by decide +kernel), (Or.inl rfl)⟩)) k1
theorem b_S_copy_57 {X : aX} {d : Nat} {post : aO} {vi : Nat → Nat → Int32} {vl : Nat → Nat → Int64} {x1 x2 x3 x4 x5 : Int32} (q1 : vp_in x1 6) (k1 : CallOk X d 0 0 k_R_hasSpan [.ref (42 + 2 * x1.toNatClampNeg), .int x2, .int x5] (mk vi vl) (fun r N' => wp X (d + 1) k_S_copy 0 0 69 [some (.ref 0), some (.int x1), some (.int x2), some (.int x3), some (.int x4), some (.int x5)] (pR r []) N' post)) : wp X (d + 1) k_S_copy 0 0 57 [some (.ref 0), some (.int x1), some (.int x2), some (.int x3), some (.int x4), some (.int x5)] [] (mk vi vl) post :=
  wr_aload_n (q := 0) (by decide +kernel) rfl rfl <|
  wr_getR2 (b := 1) (ci := 3) (k0 := 0) (idx := 11) lq_0 sq_0 (by decide) (by decide) lf_S_11 rfl vq_0_0 lq_1 (by decide +kernel) <|
  wr_iload_n (q := 1) (by decide +kernel) rfl rfl <|
  wr_aald2 (b := 42 + 2 * x1.toNatClampNeg) lq_1 sq_1 (Or.inl rfl) q1 (rows_v (vin_lt q1)) (rw_lt0 (rows_i (vin_lt q1))) (by decide +kernel) <|
  wr_iload_n (q := 2) (by decide +kernel) rfl rfl <|
  wr_iload (i := 5) (by decide +kernel) rfl <|
  wr_invV (a := 42 + 2 * x1.toNatClampNeg) (ci := 2) (mid2 := 20) (idx := 86) (b1 := 0) (b2 := 0) (c1 := 0) (c2 := 0) (as := [.int x2, .int x5]) (st := []) pl_20 rfl (Nat.le_of_ble_eq_true rfl) rfl rfl (rw_lt0 (rows_i (vin_lt q1))) (rw_s0 (rows_i (vin_lt q1))) (by decide) rfl lm_S_86 im_20 is_20 (by decide +kernel) k1
theorem b_S_copy_69 {X : aX} {d : Nat} {post : aO} {vi : Nat → Nat → Int32} {vl : Nat → Nat → Int64} {x1 x2 x3 x4 x5 y0 : Int32} (k1 : y0 = 0 → wp X (d + 1) k_S_copy 0 0 88 [some (.ref 0), some (.int x1), some (.int x2), some (.int x3), some (.int x4), some (.int x5)] [] (mk vi vl) post) (k2 : ¬ y0 = 0 → wp X (d + 1) k_S_copy 0 0 72 [some (.ref 0), some (.int x1), some (.int x2), some (.int x3), some (.int x4), some (.int x5)] [] (mk vi vl) post) : wp X (d + 1) k_S_copy 0 0 69 [some (.ref 0), some (.int x1), some (.int x2), some (.int x3), some (.int x4), some (.int x5)] [.int y0] (mk vi vl) post :=
  wr_if_eq (off := 19) (t := 88) (by decide +kernel) (by decide) k1 k2
theorem b_S_copy_72 {X : aX} {d : Nat} {post : aO} {vi : Nat → Nat → Int32} {vl : Nat → Nat → Int64} {x1 x2 x3 x4 x5 : Int32} (q1 : vp_in x3 6) (k1 : CallOk X d 0 0 k_R_hasSpan [.ref (42 + 2 * x3.toNatClampNeg), .int x4, .int x5] (mk vi vl) (fun r N' => wp X (d + 1) k_S_copy 0 0 85 [some (.ref 0), some (.int x1), some (.int x2), some (.int x3), some (.int x4), some (.int x5)] (pR r []) N' post)) : wp X (d + 1) k_S_copy 0 0 72 [some (.ref 0), some (.int x1), some (.int x2), some (.int x3), some (.int x4), some (.int x5)] [] (mk vi vl) post :=
  wr_aload_n (q := 0) (by decide +kernel) rfl rfl <|
  wr_getR2 (b := 1) (ci := 3) (k0 := 0) (idx := 11) lq_0 sq_0 (by decide) (by decide) lf_S_11 rfl vq_0_0 lq_1 (by decide +kernel) <|
  wr_iload_n (q := 3) (by decide +kernel) rfl rfl <|
  wr_aald2 (b := 42 + 2 * x3.toNatClampNeg) lq_1 sq_1 (Or.inl rfl) q1 (rows_v (vin_lt q1)) (rw_lt0 (rows_i (vin_lt q1))) (by decide +kernel) <|
  wr_iload (i := 4) (by decide +kernel) rfl <|
  wr_iload (i := 5) (by decide +kernel) rfl <|
  wr_invV (a := 42 + 2 * x3.toNatClampNeg) (ci := 2) (mid2 := 20) (idx := 86) (b1 := 0) (b2 := 0) (c1 := 0) (c2 := 0) (as := [.int x4, .int x5]) (st := []) pl_20 rfl (Nat.le_of_ble_eq_true rfl) rfl rfl (rw_lt0 (rows_i (vin_lt q1))) (rw_s0 (rows_i (vin_lt q1))) (by decide) rfl lm_S_86 im_20 is_20 (by decide +kernel) k1
theorem b_S_copy_85 {X : aX} {d : Nat} {post : aO} {vi : Nat → Nat → Int32} {vl : Nat → Nat → Int64} {x1 x2 x3 x4 x5 y0 : Int32} (k1 : ¬ y0 = 0 → wp X (d + 1) k_S_copy 0 0 94 [some (.ref 0), some (.int x1), some (.int x2), some (.int x3), some (.int x4), some (.int x5)] [] (mk vi vl) post) (k2 : y0 = 0 → wp X (d + 1) k_S_copy 0 0 88 [some (.ref 0), some (.int x1), some (.int x2), some (.int x3), some (.int x4), some (.int x5)] [] (mk vi vl) post) : wp X (d + 1) k_S_copy 0 0 85 [some (.ref 0), some (.int x1), some (.int x2), some (.int x3), some (.int x4), some (.int x5)] [.int y0] (mk vi vl) post :=
  wr_if_ne (off := 9) (t := 94) (by decide +kernel) (by decide) k1 k2
theorem b_S_copy_88 {X : aX} {d : Nat} {post : aO} {vi : Nat → Nat → Int32} {vl : Nat → Nat → Int64} {x1 x2 x3 x4 x5 : Int32} (k1 : CallOk X d 0 0 k_S_refuse [.ref 0, .int (2 : Int32)] (mk vi vl) (fun r N' => wp X (d + 1) k_S_copy 0 0 93 [some (.ref 0), some (.int x1), some (.int x2), some (.int x3), some (.int x4), some (.int x5)] (pR r []) N' post)) : wp X (d + 1) k_S_copy 0 0 88 [some (.ref 0), some (.int x1), some (.int x2), some (.int x3), some (.int x4), some (.int x5)] [] (mk vi vl) post :=
  wr_aload_n (q := 0) (by decide +kernel) rfl rfl <|
  wr_iconst (n := 2) (v := (2 : Int32)) (by decide +kernel) (by decide) <|
  wr_invV (a := 0) (ci := 3) (mid2 := 8) (idx := 64) (b1 := 0) (b2 := 0) (c1 := 0) (c2 := 0) (as := [.int (2 : Int32)]) (st := []) pl_8 rfl (Nat.le_of_ble_eq_true rfl) rfl rfl lq_0 sq_0 (by decide) rfl lm_S_64 im_8 is_8 (by decide +kernel) k1
theorem b_S_copy_93 {X : aX} {d : Nat} {post : aO} {vi : Nat → Nat → Int32} {vl : Nat → Nat → Int64} {x1 x2 x3 x4 x5 y0 : Int32} (k1 : post (some (.int y0)) (mk vi vl)) : wp X (d + 1) k_S_copy 0 0 93 [some (.ref 0), some (.int x1), some (.int x2), some (.int x3), some (.int x4), some (.int x5)] [.int y0] (mk vi vl) post :=
  wr_ret (r := some (.int y0)) (Or.inr (Or.inl ⟨_, rfl, (by decide +kernel), (Or.inl rfl)⟩)) k1
theorem b_S_copy_94 {X : aX} {d : Nat} {post : aO} {vi : Nat → Nat → Int32} {vl : Nat → Nat → Int64} {x1 x2 x3 x4 x5 : Int32} (q1 : vp_in x1 6) (q2 : vp_in x3 6) (q3 : ¬ x2 < 0) (q4 : ¬ x4 < 0) (q5 : ¬ x5 < 0) (q6 : x2.toNatClampNeg + x5.toNatClampNeg ≤ (rl (42 + 2 * x1.toNatClampNeg))) (q7 : x4.toNatClampNeg + x5.toNatClampNeg ≤ (rl (42 + 2 * x3.toNatClampNeg))) (k1 : ∀ w, w = up1 vi ((42 + 2 * x3.toNatClampNeg) + 1) (va_cpy (vi ((42 + 2 * x1.toNatClampNeg) + 1)) (vi ((42 + 2 * x3.toNatClampNeg) + 1)) x2.toNatClampNeg x4.toNatClampNeg x5.toNatClampNeg) → wp X (d + 1) k_S_copy 0 0 120 [some (.ref 0), some (.int x1), some (.int x2), some (.int x3), some (.int x4), some (.int x5)] [] (mk w vl) post) : wp X (d + 1) k_S_copy 0 0 94 [some (.ref 0), some (.int x1), some (.int x2), some (.int x3), some (.int x4), some (.int x5)] [] (mk vi vl) post :=
  wr_aload_n (q := 0) (by decide +kernel) rfl rfl <|
  wr_getR2 (b := 1) (ci := 3) (k0 := 0) (idx := 11) lq_0 sq_0 (by decide) (by decide) lf_S_11 rfl vq_0_0 lq_1 (by decide +kernel) <|
  wr_iload_n (q := 1) (by decide +kernel) rfl rfl <|
  wr_aald2 (b := 42 + 2 * x1.toNatClampNeg) lq_1 sq_1 (Or.inl rfl) q1 (rows_v (vin_lt q1)) (rw_lt0 (rows_i (vin_lt q1))) (by decide +kernel) <|
  wr_getR2 (b := (42 + 2 * x1.toNatClampNeg) + 1) (ci := 2) (k0 := 0) (idx := 76) (rw_lt0 (rows_i (vin_lt q1))) (rw_s0 (rows_i (vin_lt q1))) (by decide) (by decide) lf_S_76 rfl (rw_v0 (rows_i (vin_lt q1))) (rw_lt1 (rows_i (vin_lt q1))) (by decide +kernel) <|
  wr_iload_n (q := 2) (by decide +kernel) rfl rfl <|
  wr_aload_n (q := 0) (by decide +kernel) rfl rfl <|
  wr_getR2 (b := 1) (ci := 3) (k0 := 0) (idx := 11) lq_0 sq_0 (by decide) (by decide) lf_S_11 rfl vq_0_0 lq_1 (by decide +kernel) <|
  wr_iload_n (q := 3) (by decide +kernel) rfl rfl <|
  wr_aald2 (b := 42 + 2 * x3.toNatClampNeg) lq_1 sq_1 (Or.inl rfl) q2 (rows_v (vin_lt q2)) (rw_lt0 (rows_i (vin_lt q2))) (by decide +kernel) <|
  wr_getR2 (b := (42 + 2 * x3.toNatClampNeg) + 1) (ci := 2) (k0 := 0) (idx := 76) (rw_lt0 (rows_i (vin_lt q2))) (rw_s0 (rows_i (vin_lt q2))) (by decide) (by decide) lf_S_76 rfl (rw_v0 (rows_i (vin_lt q2))) (rw_lt1 (rows_i (vin_lt q2))) (by decide +kernel) <|
  wr_iload (i := 4) (by decide +kernel) rfl <|
  wr_iload (i := 5) (by decide +kernel) rfl <|
  wr_copy (idx := 90) lx_S lx_na lx_st lx_in (Nat.le_of_ble_eq_true rfl) (rw_lt1 (rows_i (vin_lt q1))) (rw_lt1 (rows_i (vin_lt q2))) (rw_s1 (rows_i (vin_lt q1))) (rw_s1 (rows_i (vin_lt q2))) q3 q4 q5 q6 q7 (by decide +kernel) <|
  k1 _ rfl
theorem b_S_copy_120 {X : aX} {d : Nat} {post : aO} {vi : Nat → Nat → Int32} {vl : Nat → Nat → Int64} {x1 x2 x3 x4 x5 : Int32} (k1 : post (some (.int (1 : Int32))) (mk vi vl)) : wp X (d + 1) k_S_copy 0 0 120 [some (.ref 0), some (.int x1), some (.int x2), some (.int x3), some (.int x4), some (.int x5)] [] (mk vi vl) post :=
  wr_iconst (n := 1) (v := (1 : Int32)) (by decide +kernel) (by decide) <|
  wr_ret (r := some (.int (1 : Int32))) (Or.inr (Or.inl ⟨_, rfl, (by decide +kernel), (Or.inl rfl)⟩)) k1
theorem b_S_mean_0 {X : aX} {d : Nat} {post : aO} {vi : Nat → Nat → Int32} {vl : Nat → Nat → Int64} {x1 : Int32} (k1 : CallOk X d 0 0 k_S_isRow [.int x1] (mk vi vl) (fun r N' => wp X (d + 1) k_S_mean 0 0 4 [some (.ref 0), some (.int x1), none, none, none, none] (pR r []) N' post)) : wp X (d + 1) k_S_mean 0 0 0 [some (.ref 0), some (.int x1), none, none, none, none] [] (mk vi vl) post :=
  wr_iload_n (q := 1) (by decide +kernel) rfl rfl <|
  wr_invS (mid2 := 7) (idx := 60) (b1 := 0) (b2 := 0) (c1 := 0) (c2 := 0) (as := [.int x1]) (st := []) pl_7 rfl (Nat.le_of_ble_eq_true rfl) rfl rfl lm_S_60 it_7 (by decide +kernel) k1
theorem b_S_mean_4 {X : aX} {d : Nat} {post : aO} {vi : Nat → Nat → Int32} {vl : Nat → Nat → Int64} {x1 y0 : Int32} {o2 o3 o4 o5 : Option Value} (k1 : ¬ y0 = 0 → wp X (d + 1) k_S_mean 0 0 9 [some (.ref 0), some (.int x1), o2, o3, o4, o5] [] (mk vi vl) post) (k2 : y0 = 0 → wp X (d + 1) k_S_mean 0 0 7 [some (.ref 0), some (.int x1), o2, o3, o4, o5] [] (mk vi vl) post) : wp X (d + 1) k_S_mean 0 0 4 [some (.ref 0), some (.int x1), o2, o3, o4, o5] [.int y0] (mk vi vl) post :=
  wr_if_ne (off := 5) (t := 9) (by decide +kernel) (by decide) k1 k2
theorem b_S_mean_7 {X : aX} {d : Nat} {post : aO} {vi : Nat → Nat → Int32} {vl : Nat → Nat → Int64} {x1 : Int32} {o2 o3 o4 o5 : Option Value} (k1 : post (some (.int (-1 : Int32))) (mk vi vl)) : wp X (d + 1) k_S_mean 0 0 7 [some (.ref 0), some (.int x1), o2, o3, o4, o5] [] (mk vi vl) post :=
  wr_iconst (n := -1) (v := (-1 : Int32)) (by decide +kernel) (by decide) <|
  wr_ret (r := some (.int (-1 : Int32))) (Or.inr (Or.inl ⟨_, rfl, (by decide +kernel), (Or.inl rfl)⟩)) k1
theorem b_S_mean_9 {X : aX} {d : Nat} {post : aO} {vi : Nat → Nat → Int32} {vl : Nat → Nat → Int64} {x1 : Int32} {o2 o3 o4 o5 : Option Value} (q1 : vp_in x1 6) (k1 : CallOk X d 0 0 k_R_isMissing [.ref (42 + 2 * x1.toNatClampNeg)] (mk vi vl) (fun r N' => wp X (d + 1) k_S_mean 0 0 20 [some (.ref 0), some (.int x1), some (.ref (42 + 2 * x1.toNatClampNeg)), o3, o4, o5] (pR r []) N' post)) : wp X (d + 1) k_S_mean 0 0 9 [some (.ref 0), some (.int x1), o2, o3, o4, o5] [] (mk vi vl) post :=
  wr_aload_n (q := 0) (by decide +kernel) rfl rfl <|
  wr_getR2 (b := 1) (ci := 3) (k0 := 0) (idx := 11) lq_0 sq_0 (by decide) (by decide) lf_S_11 rfl vq_0_0 lq_1 (by decide +kernel) <|
  wr_iload_n (q := 1) (by decide +kernel) rfl rfl <|
  wr_aald2 (b := 42 + 2 * x1.toNatClampNeg) lq_1 sq_1 (Or.inl rfl) q1 (rows_v (vin_lt q1)) (rw_lt0 (rows_i (vin_lt q1))) (by decide +kernel) <|
  wr_astore_n (q := 2) (by decide +kernel) rfl (by decide) <|
  wr_aload_n (q := 2) (by decide +kernel) rfl rfl <|
  wr_invV (a := 42 + 2 * x1.toNatClampNeg) (ci := 2) (mid2 := 14) (idx := 79) (b1 := 0) (b2 := 0) (c1 := 0) (c2 := 0) (as := []) (st := []) pl_14 rfl (Nat.le_of_ble_eq_true rfl) rfl rfl (rw_lt0 (rows_i (vin_lt q1))) (rw_s0 (rows_i (vin_lt q1))) (by decide) rfl lm_S_79 im_14 is_14 (by decide +kernel) k1
theorem b_S_mean_20 {X : aX} {d : Nat} {post : aO} {vi : Nat → Nat → Int32} {vl : Nat → Nat → Int64} {x1 y0 : Int32} {x2 : Nat} {o3 o4 o5 : Option Value} (k1 : y0 = 0 → wp X (d + 1) k_S_mean 0 0 29 [some (.ref 0), some (.int x1), some (.ref x2), o3, o4, o5] [] (mk vi vl) post) (k2 : ¬ y0 = 0 → wp X (d + 1) k_S_mean 0 0 23 [some (.ref 0), some (.int x1), some (.ref x2), o3, o4, o5] [] (mk vi vl) post) : wp X (d + 1) k_S_mean 0 0 20 [some (.ref 0), some (.int x1), some (.ref x2), o3, o4, o5] [.int y0] (mk vi vl) post :=
  wr_if_eq (off := 9) (t := 29) (by decide +kernel) (by decide) k1 k2
theorem b_S_mean_23 {X : aX} {d : Nat} {post : aO} {vi : Nat → Nat → Int32} {vl : Nat → Nat → Int64} {x1 : Int32} {x2 : Nat} {o3 o4 o5 : Option Value} (k1 : CallOk X d 0 0 k_S_refuse [.ref 0, .int (1 : Int32)] (mk vi vl) (fun r N' => wp X (d + 1) k_S_mean 0 0 28 [some (.ref 0), some (.int x1), some (.ref x2), o3, o4, o5] (pR r []) N' post)) : wp X (d + 1) k_S_mean 0 0 23 [some (.ref 0), some (.int x1), some (.ref x2), o3, o4, o5] [] (mk vi vl) post :=
  wr_aload_n (q := 0) (by decide +kernel) rfl rfl <|
  wr_iconst (n := 1) (v := (1 : Int32)) (by decide +kernel) (by decide) <|
  wr_invV (a := 0) (ci := 3) (mid2 := 8) (idx := 64) (b1 := 0) (b2 := 0) (c1 := 0) (c2 := 0) (as := [.int (1 : Int32)]) (st := []) pl_8 rfl (Nat.le_of_ble_eq_true rfl) rfl rfl lq_0 sq_0 (by decide) rfl lm_S_64 im_8 is_8 (by decide +kernel) k1
theorem b_S_mean_28 {X : aX} {d : Nat} {post : aO} {vi : Nat → Nat → Int32} {vl : Nat → Nat → Int64} {x1 y0 : Int32} {x2 : Nat} {o3 o4 o5 : Option Value} (k1 : post (some (.int y0)) (mk vi vl)) : wp X (d + 1) k_S_mean 0 0 28 [some (.ref 0), some (.int x1), some (.ref x2), o3, o4, o5] [.int y0] (mk vi vl) post :=
  wr_ret (r := some (.int y0)) (Or.inr (Or.inl ⟨_, rfl, (by decide +kernel), (Or.inl rfl)⟩)) k1
theorem b_S_mean_29 {X : aX} {d : Nat} {post : aO} {vi : Nat → Nat → Int32} {vl : Nat → Nat → Int64} {x1 : Int32} {x2 : Nat} {o3 o4 o5 : Option Value} (hx2 : isRw x2) (k1 : ¬ (vi x2 1) = 0 → wp X (d + 1) k_S_mean 0 0 42 [some (.ref 0), some (.int x1), some (.ref x2), o3, o4, o5] [] (mk vi vl) post) (k2 : (vi x2 1) = 0 → wp X (d + 1) k_S_mean 0 0 36 [some (.ref 0), some (.int x1), some (.ref x2), o3, o4, o5] [] (mk vi vl) post) : wp X (d + 1) k_S_mean 0 0 29 [some (.ref 0), some (.int x1), some (.ref x2), o3, o4, o5] [] (mk vi vl) post :=
  wr_aload_n (q := 2) (by decide +kernel) rfl rfl <|
  wr_getI (ci := 2) (k0 := 1) (idx := 96) (rw_lt0 hx2) (rw_s0 hx2) (by decide) (by decide) lf_S_96 (Or.inl rfl) (by decide +kernel) <|
  wr_if_ne (off := 9) (t := 42) (by decide +kernel) (by decide) k1 k2
theorem b_S_mean_36 {X : aX} {d : Nat} {post : aO} {vi : Nat → Nat → Int32} {vl : Nat → Nat → Int64} {x1 : Int32} {x2 : Nat} {o3 o4 o5 : Option Value} (k1 : CallOk X d 0 0 k_S_refuse [.ref 0, .int (4 : Int32)] (mk vi vl) (fun r N' => wp X (d + 1) k_S_mean 0 0 41 [some (.ref 0), some (.int x1), some (.ref x2), o3, o4, o5] (pR r []) N' post)) : wp X (d + 1) k_S_mean 0 0 36 [some (.ref 0), some (.int x1), some (.ref x2), o3, o4, o5] [] (mk vi vl) post :=
  wr_aload_n (q := 0) (by decide +kernel) rfl rfl <|
  wr_iconst (n := 4) (v := (4 : Int32)) (by decide +kernel) (by decide) <|
  wr_invV (a := 0) (ci := 3) (mid2 := 8) (idx := 64) (b1 := 0) (b2 := 0) (c1 := 0) (c2 := 0) (as := [.int (4 : Int32)]) (st := []) pl_8 rfl (Nat.le_of_ble_eq_true rfl) rfl rfl lq_0 sq_0 (by decide) rfl lm_S_64 im_8 is_8 (by decide +kernel) k1
theorem b_S_mean_41 {X : aX} {d : Nat} {post : aO} {vi : Nat → Nat → Int32} {vl : Nat → Nat → Int64} {x1 y0 : Int32} {x2 : Nat} {o3 o4 o5 : Option Value} (k1 : post (some (.int y0)) (mk vi vl)) : wp X (d + 1) k_S_mean 0 0 41 [some (.ref 0), some (.int x1), some (.ref x2), o3, o4, o5] [.int y0] (mk vi vl) post :=
  wr_ret (r := some (.int y0)) (Or.inr (Or.inl ⟨_, rfl, (by decide +kernel), (Or.inl rfl)⟩)) k1
theorem b_S_mean_42 {X : aX} {d : Nat} {post : aO} {vi : Nat → Nat → Int32} {vl : Nat → Nat → Int64} {x1 : Int32} {x2 : Nat} {o3 o4 o5 : Option Value} (k1 : wp X (d + 1) k_S_mean 0 0 47 [some (.ref 0), some (.int x1), some (.ref x2), some (.long (0 : Int64)), none, some (.int (0 : Int32))] [] (mk vi vl) post) : wp X (d + 1) k_S_mean 0 0 42 [some (.ref 0), some (.int x1), some (.ref x2), o3, o4, o5] [] (mk vi vl) post :=
  wr_lconst (n := 0) (v := (0 : Int64)) (by decide +kernel) (by decide) <|
  wr_lstore_n (q := 3) (by decide +kernel) rfl (by decide) <|
  wr_iconst (n := 0) (v := (0 : Int32)) (by decide +kernel) (by decide) <|
  wr_istore (i := 5) (by decide +kernel) (by decide) <|
  k1
theorem b_S_mean_47 {X : aX} {d : Nat} {post : aO} {vi : Nat → Nat → Int32} {vl : Nat → Nat → Int64} {x1 x5 : Int32} {x2 : Nat} {x3 : Int64} (hx2 : isRw x2) (k1 : (vi x2 1) ≤ x5 → wp X (d + 1) k_S_mean 0 0 73 [some (.ref 0), some (.int x1), some (.ref x2), some (.long x3), none, some (.int x5)] [] (mk vi vl) post) (k2 : ¬ (vi x2 1) ≤ x5 → wp X (d + 1) k_S_mean 0 0 56 [some (.ref 0), some (.int x1), some (.ref x2), some (.long x3), none, some (.int x5)] [] (mk vi vl) post) : wp X (d + 1) k_S_mean 0 0 47 [some (.ref 0), some (.int x1), some (.ref x2), some (.long x3), none, some (.int x5)] [] (mk vi vl) post :=
  wr_iload (i := 5) (by decide +kernel) rfl <|
  wr_aload_n (q := 2) (by decide +kernel) rfl rfl <|
  wr_getI (ci := 2) (k0 := 1) (idx := 96) (rw_lt0 hx2) (rw_s0 hx2) (by decide) (by decide) lf_S_96 (Or.inl rfl) (by decide +kernel) <|
  wr_icmp_ge (off := 20) (t := 73) (by decide +kernel) (by decide) k1 k2
theorem b_S_mean_56 {X : aX} {d : Nat} {post : aO} {vi : Nat → Nat → Int32} {vl : Nat → Nat → Int64} {x1 x5 : Int32} {x2 : Nat} {x3 : Int64} (hx2 : isRw x2) (q1 : vp_in x5 (rl x2)) (k1 : wp X (d + 1) k_S_mean 0 0 47 [some (.ref 0), some (.int x1), some (.ref x2), some (.long (x3 + ((vi (x2 + 1) x5.toNatClampNeg).toInt64))), none, some (.int (x5 + (1 : Int32)))] [] (mk vi vl) post) : wp X (d + 1) k_S_mean 0 0 56 [some (.ref 0), some (.int x1), some (.ref x2), some (.long x3), none, some (.int x5)] [] (mk vi vl) post :=
  wr_lload_n (q := 3) (by decide +kernel) rfl rfl <|
  wr_aload_n (q := 2) (by decide +kernel) rfl rfl <|
  wr_getR2 (b := x2 + 1) (ci := 2) (k0 := 0) (idx := 76) (rw_lt0 hx2) (rw_s0 hx2) (by decide) (by decide) lf_S_76 rfl (rw_v0 hx2) (rw_lt1 hx2) (by decide +kernel) <|
  wr_iload (i := 5) (by decide +kernel) rfl <|
  wr_iald (rw_lt1 hx2) (rw_s1 hx2) q1 (by decide +kernel) <|
  wr_i2l (by decide +kernel) <|
  wr_ladd (by decide +kernel) <|
  wr_lstore_n (q := 3) (by decide +kernel) rfl (by decide) <|
  wr_iinc (i := 5) (n := 1) (v := (1 : Int32)) (by decide +kernel) rfl (by decide) (by decide) <|
  wr_goto (off := -23) (t := 47) (by decide +kernel) (by decide) k1
theorem b_S_mean_73 {X : aX} {d : Nat} {post : aO} {vi : Nat → Nat → Int32} {vl : Nat → Nat → Int64} {x1 x5 : Int32} {x2 : Nat} {x3 : Int64} (hx2 : isRw x2) (q1 : ¬ ((vi x2 1).toInt64) = 0) (k1 : ∀ w, w = up2 vi 0 8 ((x3 / ((vi x2 1).toInt64)).toInt32) → wp X (d + 1) k_S_mean 0 0 85 [some (.ref 0), some (.int x1), some (.ref x2), some (.long x3), none, some (.int x5)] [] (mk w vl) post) : wp X (d + 1) k_S_mean 0 0 73 [some (.ref 0), some (.int x1), some (.ref x2), some (.long x3), none, some (.int x5)] [] (mk vi vl) post :=
  wr_aload_n (q := 0) (by decide +kernel) rfl rfl <|
  wr_lload_n (q := 3) (by decide +kernel) rfl rfl <|
  wr_aload_n (q := 2) (by decide +kernel) rfl rfl <|
  wr_getI (ci := 2) (k0 := 1) (idx := 96) (rw_lt0 hx2) (rw_s0 hx2) (by decide) (by decide) lf_S_96 (Or.inl rfl) (by decide +kernel) <|
  wr_i2l (by decide +kernel) <|
  wr_ldiv (by decide +kernel) q1 <|
  wr_l2i (by decide +kernel) <|
  wr_putI (ci := 3) (k0 := 8) (idx := 47) lq_0 sq_0 (by decide) (by decide) lf_S_47 rfl (by decide +kernel) <|
  k1 _ rfl
theorem b_S_mean_85 {X : aX} {d : Nat} {post : aO} {vi : Nat → Nat → Int32} {vl : Nat → Nat → Int64} {x1 x5 : Int32} {x2 : Nat} {x3 : Int64} (k1 : post (some (.int (1 : Int32))) (mk vi vl)) : wp X (d + 1) k_S_mean 0 0 85 [some (.ref 0), some (.int x1), some (.ref x2), some (.long x3), none, some (.int x5)] [] (mk vi vl) post :=
  wr_iconst (n := 1) (v := (1 : Int32)) (by decide +kernel) (by decide) <|
  wr_ret (r := some (.int (1 : Int32))) (Or.inr (Or.inl ⟨_, rfl, (by decide +kernel), (Or.inl rfl)⟩)) k1
theorem b_S_text_0 {X : aX} {d : Nat} {post : aO} {vi : Nat → Nat → Int32} {vl : Nat → Nat → Int64} {x1 x2 : Int32} (k1 : CallOk X d 0 0 k_S_isText [.int x1] (mk vi vl) (fun r N' => wp X (d + 1) k_S_text 0 0 4 [some (.ref 0), some (.int x1), some (.int x2)] (pR r []) N' post)) : wp X (d + 1) k_S_text 0 0 0 [some (.ref 0), some (.int x1), some (.int x2)] [] (mk vi vl) post :=
  wr_iload_n (q := 1) (by decide +kernel) rfl rfl <|
  wr_invS (mid2 := 23) (idx := 99) (b1 := 0) (b2 := 0) (c1 := 0) (c2 := 0) (as := [.int x1]) (st := []) pl_23 rfl (Nat.le_of_ble_eq_true rfl) rfl rfl lm_S_99 it_23 (by decide +kernel) k1
theorem b_S_text_4 {X : aX} {d : Nat} {post : aO} {vi : Nat → Nat → Int32} {vl : Nat → Nat → Int64} {x1 x2 y0 : Int32} (k1 : y0 = 0 → wp X (d + 1) k_S_text 0 0 13 [some (.ref 0), some (.int x1), some (.int x2)] [] (mk vi vl) post) (k2 : ¬ y0 = 0 → wp X (d + 1) k_S_text 0 0 7 [some (.ref 0), some (.int x1), some (.int x2)] [] (mk vi vl) post) : wp X (d + 1) k_S_text 0 0 4 [some (.ref 0), some (.int x1), some (.int x2)] [.int y0] (mk vi vl) post :=
  wr_if_eq (off := 9) (t := 13) (by decide +kernel) (by decide) k1 k2
theorem b_S_text_7 {X : aX} {d : Nat} {post : aO} {vi : Nat → Nat → Int32} {vl : Nat → Nat → Int64} {x1 x2 : Int32} (k1 : x2 ≤ (60 : Int32) → wp X (d + 1) k_S_text 0 0 15 [some (.ref 0), some (.int x1), some (.int x2)] [] (mk vi vl) post) (k2 : ¬ x2 ≤ (60 : Int32) → wp X (d + 1) k_S_text 0 0 13 [some (.ref 0), some (.int x1), some (.int x2)] [] (mk vi vl) post) : wp X (d + 1) k_S_text 0 0 7 [some (.ref 0), some (.int x1), some (.int x2)] [] (mk vi vl) post :=
  wr_iload_n (q := 2) (by decide +kernel) rfl rfl <|
  wr_bipush (n := 60) (v := (60 : Int32)) (by decide +kernel) (by decide) <|
  wr_icmp_le (off := 5) (t := 15) (by decide +kernel) (by decide) k1 k2
theorem b_S_text_13 {X : aX} {d : Nat} {post : aO} {vi : Nat → Nat → Int32} {vl : Nat → Nat → Int64} {x1 x2 : Int32} (k1 : post (some (.int (-1 : Int32))) (mk vi vl)) : wp X (d + 1) k_S_text 0 0 13 [some (.ref 0), some (.int x1), some (.int x2)] [] (mk vi vl) post :=
  wr_iconst (n := -1) (v := (-1 : Int32)) (by decide +kernel) (by decide) <|
  wr_ret (r := some (.int (-1 : Int32))) (Or.inr (Or.inl ⟨_, rfl, (by decide +kernel), (Or.inl rfl)⟩)) k1
theorem b_S_text_15 {X : aX} {d : Nat} {post : aO} {vi : Nat → Nat → Int32} {vl : Nat → Nat → Int64} {x1 x2 : Int32} (k1 : 0 ≤ x2 → wp X (d + 1) k_S_text 0 0 25 [some (.ref 0), some (.int x1), some (.int x2)] [] (mk vi vl) post) (k2 : ¬ 0 ≤ x2 → wp X (d + 1) k_S_text 0 0 19 [some (.ref 0), some (.int x1), some (.int x2)] [] (mk vi vl) post) : wp X (d + 1) k_S_text 0 0 15 [some (.ref 0), some (.int x1), some (.int x2)] [] (mk vi vl) post :=
  wr_iload_n (q := 2) (by decide +kernel) rfl rfl <|
  wr_if_ge (off := 9) (t := 25) (by decide +kernel) (by decide) k1 k2
theorem b_S_text_19 {X : aX} {d : Nat} {post : aO} {vi : Nat → Nat → Int32} {vl : Nat → Nat → Int64} {x1 x2 : Int32} (k1 : CallOk X d 0 0 k_S_refuse [.ref 0, .int (5 : Int32)] (mk vi vl) (fun r N' => wp X (d + 1) k_S_text 0 0 24 [some (.ref 0), some (.int x1), some (.int x2)] (pR r []) N' post)) : wp X (d + 1) k_S_text 0 0 19 [some (.ref 0), some (.int x1), some (.int x2)] [] (mk vi vl) post :=
  wr_aload_n (q := 0) (by decide +kernel) rfl rfl <|
  wr_iconst (n := 5) (v := (5 : Int32)) (by decide +kernel) (by decide) <|
  wr_invV (a := 0) (ci := 3) (mid2 := 8) (idx := 64) (b1 := 0) (b2 := 0) (c1 := 0) (c2 := 0) (as := [.int (5 : Int32)]) (st := []) pl_8 rfl (Nat.le_of_ble_eq_true rfl) rfl rfl lq_0 sq_0 (by decide) rfl lm_S_64 im_8 is_8 (by decide +kernel) k1
theorem b_S_text_24 {X : aX} {d : Nat} {post : aO} {vi : Nat → Nat → Int32} {vl : Nat → Nat → Int64} {x1 x2 y0 : Int32} (k1 : post (some (.int y0)) (mk vi vl)) : wp X (d + 1) k_S_text 0 0 24 [some (.ref 0), some (.int x1), some (.int x2)] [.int y0] (mk vi vl) post :=
  wr_ret (r := some (.int y0)) (Or.inr (Or.inl ⟨_, rfl, (by decide +kernel), (Or.inl rfl)⟩)) k1
theorem b_S_text_25 {X : aX} {d : Nat} {post : aO} {vi : Nat → Nat → Int32} {vl : Nat → Nat → Int64} {x1 x2 : Int32} (q1 : vp_in x1 4) (k1 : CallOk X d 0 0 k_R_begin [.ref (54 + 2 * x1.toNatClampNeg), .int x2, .int (32 : Int32)] (mk vi vl) (fun r N' => wp X (d + 1) k_S_text 0 0 37 [some (.ref 0), some (.int x1), some (.int x2)] (pR r []) N' post)) : wp X (d + 1) k_S_text 0 0 25 [some (.ref 0), some (.int x1), some (.int x2)] [] (mk vi vl) post :=
  wr_aload_n (q := 0) (by decide +kernel) rfl rfl <|
  wr_getR2 (b := 2) (ci := 3) (k0 := 1) (idx := 15) lq_0 sq_0 (by decide) (by decide) lf_S_15 rfl vq_0_1 lq_2 (by decide +kernel) <|
  wr_iload_n (q := 1) (by decide +kernel) rfl rfl <|
  wr_aald2 (b := 54 + 2 * x1.toNatClampNeg) lq_2 sq_2 (Or.inl rfl) q1 (texts_v (vin_lt q1)) (rw_lt0 (texts_i (vin_lt q1))) (by decide +kernel) <|
  wr_iload_n (q := 2) (by decide +kernel) rfl rfl <|
  wr_bipush (n := 32) (v := (32 : Int32)) (by decide +kernel) (by decide) <|
  wr_invV (a := 54 + 2 * x1.toNatClampNeg) (ci := 2) (mid2 := 9) (idx := 68) (b1 := 0) (b2 := 0) (c1 := 0) (c2 := 0) (as := [.int x2, .int (32 : Int32)]) (st := []) pl_9 rfl (Nat.le_of_ble_eq_true rfl) rfl rfl (rw_lt0 (texts_i (vin_lt q1))) (rw_s0 (texts_i (vin_lt q1))) (by decide) rfl lm_S_68 im_9 is_9 (by decide +kernel) k1
theorem b_S_text_37 {X : aX} {d : Nat} {post : aO} {vi : Nat → Nat → Int32} {vl : Nat → Nat → Int64} {x1 x2 : Int32} (k1 : post (some (.int x2)) (mk vi vl)) : wp X (d + 1) k_S_text 0 0 37 [some (.ref 0), some (.int x1), some (.int x2)] [] (mk vi vl) post :=
  wr_iload_n (q := 2) (by decide +kernel) rfl rfl <|
  wr_ret (r := some (.int x2)) (Or.inr (Or.inl ⟨_, rfl, (by decide +kernel), (Or.inl rfl)⟩)) k1
theorem b_S_isText_0 {X : aX} {d : Nat} {post : aO} {vi : Nat → Nat → Int32} {vl : Nat → Nat → Int64} {x0 : Int32} (k1 : x0 < 0 → wp X (d + 1) k_S_isText 0 0 13 [some (.int x0)] [] (mk vi vl) post) (k2 : ¬ x0 < 0 → wp X (d + 1) k_S_isText 0 0 4 [some (.int x0)] [] (mk vi vl) post) : wp X (d + 1) k_S_isText 0 0 0 [some (.int x0)] [] (mk vi vl) post :=
  wr_iload_n (q := 0) (by decide +kernel) rfl rfl <|
  wr_if_lt (off := 12) (t := 13) (by decide +kernel) (by decide) k1 k2
theorem b_S_isText_4 {X : aX} {d : Nat} {post : aO} {vi : Nat → Nat → Int32} {vl : Nat → Nat → Int64} {x0 : Int32} (k1 : (4 : Int32) ≤ x0 → wp X (d + 1) k_S_isText 0 0 13 [some (.int x0)] [] (mk vi vl) post) (k2 : ¬ (4 : Int32) ≤ x0 → wp X (d + 1) k_S_isText 0 0 9 [some (.int x0)] [] (mk vi vl) post) : wp X (d + 1) k_S_isText 0 0 4 [some (.int x0)] [] (mk vi vl) post :=
  wr_iload_n (q := 0) (by decide +kernel) rfl rfl <|
  wr_iconst (n := 4) (v := (4 : Int32)) (by decide +kernel) (by decide) <|
  wr_icmp_ge (off := 7) (t := 13) (by decide +kernel) (by decide) k1 k2
theorem b_S_isText_9 {X : aX} {d : Nat} {post : aO} {vi : Nat → Nat → Int32} {vl : Nat → Nat → Int64} {x0 : Int32} (k1 : wp X (d + 1) k_S_isText 0 0 14 [some (.int x0)] [.int (1 : Int32)] (mk vi vl) post) : wp X (d + 1) k_S_isText 0 0 9 [some (.int x0)] [] (mk vi vl) post :=
  wr_iconst (n := 1) (v := (1 : Int32)) (by decide +kernel) (by decide) <|
  wr_goto (off := 4) (t := 14) (by decide +kernel) (by decide) k1
theorem b_S_isText_13 {X : aX} {d : Nat} {post : aO} {vi : Nat → Nat → Int32} {vl : Nat → Nat → Int64} {x0 : Int32} (k1 : wp X (d + 1) k_S_isText 0 0 14 [some (.int x0)] [.int (0 : Int32)] (mk vi vl) post) : wp X (d + 1) k_S_isText 0 0 13 [some (.int x0)] [] (mk vi vl) post :=
  wr_iconst (n := 0) (v := (0 : Int32)) (by decide +kernel) (by decide) <|
  k1
theorem b_S_isText_14 {X : aX} {d : Nat} {post : aO} {vi : Nat → Nat → Int32} {vl : Nat → Nat → Int64} {x0 y0 : Int32} (q1 : y0 = 0 ∨ y0 = 1) (k1 : post (some (.int y0)) (mk vi vl)) : wp X (d + 1) k_S_isText 0 0 14 [some (.int x0)] [.int y0] (mk vi vl) post :=
  wr_ret (r := some (.int y0)) (Or.inr (Or.inl ⟨_, rfl, (by decide +kernel), (Or.inr ⟨rfl, q1⟩)⟩)) k1
theorem b_S_put_0 {X : aX} {d : Nat} {post : aO} {vi : Nat → Nat → Int32} {vl : Nat → Nat → Int64} {x1 x2 x3 : Int32} (k1 : CallOk X d 0 0 k_S_isText [.int x1] (mk vi vl) (fun r N' => wp X (d + 1) k_S_put 0 0 4 [some (.ref 0), some (.int x1), some (.int x2), some (.int x3), none, none] (pR r []) N' post)) : wp X (d + 1) k_S_put 0 0 0 [some (.ref 0), some (.int x1), some (.int x2), some (.int x3), none, none] [] (mk vi vl) post :=
  wr_iload_n (q := 1) (by decide +kernel) rfl rfl <|
  wr_invS (mid2 := 23) (idx := 99) (b1 := 0) (b2 := 0) (c1 := 0) (c2 := 0) (as := [.int x1]) (st := []) pl_23 rfl (Nat.le_of_ble_eq_true rfl) rfl rfl lm_S_99 it_23 (by decide +kernel) k1
theorem b_S_put_4 {X : aX} {d : Nat} {post : aO} {vi : Nat → Nat → Int32} {vl : Nat → Nat → Int64} {x1 x2 x3 y0 : Int32} {o4 o5 : Option Value} (k1 : ¬ y0 = 0 → wp X (d + 1) k_S_put 0 0 9 [some (.ref 0), some (.int x1), some (.int x2), some (.int x3), o4, o5] [] (mk vi vl) post) (k2 : y0 = 0 → wp X (d + 1) k_S_put 0 0 7 [some (.ref 0), some (.int x1), some (.int x2), some (.int x3), o4, o5] [] (mk vi vl) post) : wp X (d + 1) k_S_put 0 0 4 [some (.ref 0), some (.int x1), some (.int x2), some (.int x3), o4, o5] [.int y0] (mk vi vl) post :=
  wr_if_ne (off := 5) (t := 9) (by decide +kernel) (by decide) k1 k2
theorem b_S_put_7 {X : aX} {d : Nat} {post : aO} {vi : Nat → Nat → Int32} {vl : Nat → Nat → Int64} {x1 x2 x3 : Int32} {o4 o5 : Option Value} (k1 : post (some (.int (-1 : Int32))) (mk vi vl)) : wp X (d + 1) k_S_put 0 0 7 [some (.ref 0), some (.int x1), some (.int x2), some (.int x3), o4, o5] [] (mk vi vl) post :=
  wr_iconst (n := -1) (v := (-1 : Int32)) (by decide +kernel) (by decide) <|
  wr_ret (r := some (.int (-1 : Int32))) (Or.inr (Or.inl ⟨_, rfl, (by decide +kernel), (Or.inl rfl)⟩)) k1
theorem b_S_put_9 {X : aX} {d : Nat} {post : aO} {vi : Nat → Nat → Int32} {vl : Nat → Nat → Int64} {x1 x2 x3 : Int32} {o4 o5 : Option Value} (q1 : vp_in x1 4) (k1 : CallOk X d 0 0 k_S_refusePlace [.ref 0, .ref (54 + 2 * x1.toNatClampNeg), .int x2] (mk vi vl) (fun r N' => wp X (d + 1) k_S_put 0 0 20 [some (.ref 0), some (.int x1), some (.int x2), some (.int x3), o4, o5] (pR r []) N' post)) : wp X (d + 1) k_S_put 0 0 9 [some (.ref 0), some (.int x1), some (.int x2), some (.int x3), o4, o5] [] (mk vi vl) post :=
  wr_aload_n (q := 0) (by decide +kernel) rfl rfl <|
  wr_aload_n (q := 0) (by decide +kernel) rfl rfl <|
  wr_getR2 (b := 2) (ci := 3) (k0 := 1) (idx := 15) lq_0 sq_0 (by decide) (by decide) lf_S_15 rfl vq_0_1 lq_2 (by decide +kernel) <|
  wr_iload_n (q := 1) (by decide +kernel) rfl rfl <|
  wr_aald2 (b := 54 + 2 * x1.toNatClampNeg) lq_2 sq_2 (Or.inl rfl) q1 (texts_v (vin_lt q1)) (rw_lt0 (texts_i (vin_lt q1))) (by decide +kernel) <|
  wr_iload_n (q := 2) (by decide +kernel) rfl rfl <|
  wr_invV (a := 0) (ci := 3) (mid2 := 13) (idx := 72) (b1 := 0) (b2 := 0) (c1 := 0) (c2 := 0) (as := [.ref (54 + 2 * x1.toNatClampNeg), .int x2]) (st := []) pl_13 rfl (Nat.le_of_ble_eq_true rfl) rfl rfl lq_0 sq_0 (by decide) rfl lm_S_72 im_13 is_13 (by decide +kernel) k1
theorem b_S_put_20 {X : aX} {d : Nat} {post : aO} {vi : Nat → Nat → Int32} {vl : Nat → Nat → Int64} {x1 x2 x3 y0 : Int32} {o4 o5 : Option Value} (k1 : y0 = 0 → wp X (d + 1) k_S_put 0 0 30 [some (.ref 0), some (.int x1), some (.int x2), some (.int x3), some (.int y0), o5] [] (mk vi vl) post) (k2 : ¬ y0 = 0 → wp X (d + 1) k_S_put 0 0 27 [some (.ref 0), some (.int x1), some (.int x2), some (.int x3), some (.int y0), o5] [] (mk vi vl) post) : wp X (d + 1) k_S_put 0 0 20 [some (.ref 0), some (.int x1), some (.int x2), some (.int x3), o4, o5] [.int y0] (mk vi vl) post :=
  wr_istore (i := 4) (by decide +kernel) (by decide) <|
  wr_iload (i := 4) (by decide +kernel) rfl <|
  wr_if_eq (off := 6) (t := 30) (by decide +kernel) (by decide) k1 k2
theorem b_S_put_27 {X : aX} {d : Nat} {post : aO} {vi : Nat → Nat → Int32} {vl : Nat → Nat → Int64} {x1 x2 x3 x4 : Int32} {o5 : Option Value} (k1 : post (some (.int x4)) (mk vi vl)) : wp X (d + 1) k_S_put 0 0 27 [some (.ref 0), some (.int x1), some (.int x2), some (.int x3), some (.int x4), o5] [] (mk vi vl) post :=
  wr_iload (i := 4) (by decide +kernel) rfl <|
  wr_ret (r := some (.int x4)) (Or.inr (Or.inl ⟨_, rfl, (by decide +kernel), (Or.inl rfl)⟩)) k1
theorem b_S_put_30 {X : aX} {d : Nat} {post : aO} {vi : Nat → Nat → Int32} {vl : Nat → Nat → Int64} {x1 x2 x3 x4 : Int32} {o5 : Option Value} (q1 : vp_in x1 4) (q2 : vp_in x2 (rl (54 + 2 * x1.toNatClampNeg))) (q3 : vp_in x1 4) (q4 : vp_in x2 (rl (54 + 2 * x1.toNatClampNeg))) (k1 : ∀ w, w = up2 vi ((54 + 2 * x1.toNatClampNeg) + 1) x2.toNatClampNeg x3.toInt8.toInt32 → wp X (d + 1) k_S_put 0 0 56 [some (.ref 0), some (.int x1), some (.int x2), some (.int x3), some (.int x4), some (.int (vi ((54 + 2 * x1.toNatClampNeg) + 1) x2.toNatClampNeg))] [] (mk w vl) post) : wp X (d + 1) k_S_put 0 0 30 [some (.ref 0), some (.int x1), some (.int x2), some (.int x3), some (.int x4), o5] [] (mk vi vl) post :=
  wr_aload_n (q := 0) (by decide +kernel) rfl rfl <|
  wr_getR2 (b := 2) (ci := 3) (k0 := 1) (idx := 15) lq_0 sq_0 (by decide) (by decide) lf_S_15 rfl vq_0_1 lq_2 (by decide +kernel) <|
  wr_iload_n (q := 1) (by decide +kernel) rfl rfl <|
  wr_aald2 (b := 54 + 2 * x1.toNatClampNeg) lq_2 sq_2 (Or.inl rfl) q1 (texts_v (vin_lt q1)) (rw_lt0 (texts_i (vin_lt q1))) (by decide +kernel) <|
  wr_getR2 (b := (54 + 2 * x1.toNatClampNeg) + 1) (ci := 2) (k0 := 0) (idx := 76) (rw_lt0 (texts_i (vin_lt q1))) (rw_s0 (texts_i (vin_lt q1))) (by decide) (by decide) lf_S_76 rfl (rw_v0 (texts_i (vin_lt q1))) (rw_lt1 (texts_i (vin_lt q1))) (by decide +kernel) <|
  wr_iload_n (q := 2) (by decide +kernel) rfl rfl <|
  wr_iald (rw_lt1 (texts_i (vin_lt q1))) (rw_s1 (texts_i (vin_lt q1))) q2 (by decide +kernel) <|
  wr_istore (i := 5) (by decide +kernel) (by decide) <|
  wr_aload_n (q := 0) (by decide +kernel) rfl rfl <|
  wr_getR2 (b := 2) (ci := 3) (k0 := 1) (idx := 15) lq_0 sq_0 (by decide) (by decide) lf_S_15 rfl vq_0_1 lq_2 (by decide +kernel) <|
  wr_iload_n (q := 1) (by decide +kernel) rfl rfl <|
  wr_aald2 (b := 54 + 2 * x1.toNatClampNeg) lq_2 sq_2 (Or.inl rfl) q3 (texts_v (vin_lt q3)) (rw_lt0 (texts_i (vin_lt q3))) (by decide +kernel) <|
  wr_getR2 (b := (54 + 2 * x1.toNatClampNeg) + 1) (ci := 2) (k0 := 0) (idx := 76) (rw_lt0 (texts_i (vin_lt q3))) (rw_s0 (texts_i (vin_lt q3))) (by decide) (by decide) lf_S_76 rfl (rw_v0 (texts_i (vin_lt q3))) (rw_lt1 (texts_i (vin_lt q3))) (by decide +kernel) <|
  wr_iload_n (q := 2) (by decide +kernel) rfl rfl <|
  wr_iload_n (q := 3) (by decide +kernel) rfl rfl <|
  wr_i2b (by decide +kernel) <|
  wr_iast (rw_lt1 (texts_i (vin_lt q3))) (rw_s1 (texts_i (vin_lt q3))) q4 (by decide +kernel) <|
  k1 _ rfl
theorem b_S_put_56 {X : aX} {d : Nat} {post : aO} {vi : Nat → Nat → Int32} {vl : Nat → Nat → Int64} {x1 x2 x3 x4 x5 : Int32} (k1 : post (some (.int (x5 + (1000 : Int32)))) (mk vi vl)) : wp X (d + 1) k_S_put 0 0 56 [some (.ref 0), some (.int x1), some (.int x2), some (.int x3), some (.int x4), some (.int x5)] [] (mk vi vl) post :=
  wr_iload (i := 5) (by decide +kernel) rfl <|
  wr_sipush (n := 1000) (v := (1000 : Int32)) (by decide +kernel) (by decide) <|
  wr_iadd (by decide +kernel) <|
  wr_ret (r := some (.int (x5 + (1000 : Int32)))) (Or.inr (Or.inl ⟨_, rfl, (by decide +kernel), (Or.inl rfl)⟩)) k1
theorem b_S_fault_0 {X : aX} {d : Nat} {post : aO} {vi : Nat → Nat → Int32} {vl : Nat → Nat → Int64} {x1 : Int32} (k1 : CallOk X d 0 0 k_S_isText [.int x1] (mk vi vl) (fun r N' => wp X (d + 1) k_S_fault 0 0 4 [some (.ref 0), some (.int x1)] (pR r []) N' post)) : wp X (d + 1) k_S_fault 0 0 0 [some (.ref 0), some (.int x1)] [] (mk vi vl) post :=
  wr_iload_n (q := 1) (by decide +kernel) rfl rfl <|
  wr_invS (mid2 := 23) (idx := 99) (b1 := 0) (b2 := 0) (c1 := 0) (c2 := 0) (as := [.int x1]) (st := []) pl_23 rfl (Nat.le_of_ble_eq_true rfl) rfl rfl lm_S_99 it_23 (by decide +kernel) k1
theorem b_S_fault_4 {X : aX} {d : Nat} {post : aO} {vi : Nat → Nat → Int32} {vl : Nat → Nat → Int64} {x1 y0 : Int32} (k1 : ¬ y0 = 0 → wp X (d + 1) k_S_fault 0 0 9 [some (.ref 0), some (.int x1)] [] (mk vi vl) post) (k2 : y0 = 0 → wp X (d + 1) k_S_fault 0 0 7 [some (.ref 0), some (.int x1)] [] (mk vi vl) post) : wp X (d + 1) k_S_fault 0 0 4 [some (.ref 0), some (.int x1)] [.int y0] (mk vi vl) post :=
  wr_if_ne (off := 5) (t := 9) (by decide +kernel) (by decide) k1 k2
theorem b_S_fault_7 {X : aX} {d : Nat} {post : aO} {vi : Nat → Nat → Int32} {vl : Nat → Nat → Int64} {x1 : Int32} (k1 : post (some (.int (-1 : Int32))) (mk vi vl)) : wp X (d + 1) k_S_fault 0 0 7 [some (.ref 0), some (.int x1)] [] (mk vi vl) post :=
  wr_iconst (n := -1) (v := (-1 : Int32)) (by decide +kernel) (by decide) <|
  wr_ret (r := some (.int (-1 : Int32))) (Or.inr (Or.inl ⟨_, rfl, (by decide +kernel), (Or.inl rfl)⟩)) k1
theorem b_S_fault_9 {X : aX} {d : Nat} {post : aO} {vi : Nat → Nat → Int32} {vl : Nat → Nat → Int64} {x1 : Int32} (q1 : vp_in x1 4) (k1 : CallOk X d 0 0 k_R_isMissing [.ref (54 + 2 * x1.toNatClampNeg)] (mk vi vl) (fun r N' => wp X (d + 1) k_S_fault 0 0 18 [some (.ref 0), some (.int x1)] (pR r []) N' post)) : wp X (d + 1) k_S_fault 0 0 9 [some (.ref 0), some (.int x1)] [] (mk vi vl) post :=
  wr_aload_n (q := 0) (by decide +kernel) rfl rfl <|
  wr_getR2 (b := 2) (ci := 3) (k0 := 1) (idx := 15) lq_0 sq_0 (by decide) (by decide) lf_S_15 rfl vq_0_1 lq_2 (by decide +kernel) <|
  wr_iload_n (q := 1) (by decide +kernel) rfl rfl <|
  wr_aald2 (b := 54 + 2 * x1.toNatClampNeg) lq_2 sq_2 (Or.inl rfl) q1 (texts_v (vin_lt q1)) (rw_lt0 (texts_i (vin_lt q1))) (by decide +kernel) <|
  wr_invV (a := 54 + 2 * x1.toNatClampNeg) (ci := 2) (mid2 := 14) (idx := 79) (b1 := 0) (b2 := 0) (c1 := 0) (c2 := 0) (as := []) (st := []) pl_14 rfl (Nat.le_of_ble_eq_true rfl) rfl rfl (rw_lt0 (texts_i (vin_lt q1))) (rw_s0 (texts_i (vin_lt q1))) (by decide) rfl lm_S_79 im_14 is_14 (by decide +kernel) k1
theorem b_S_fault_18 {X : aX} {d : Nat} {post : aO} {vi : Nat → Nat → Int32} {vl : Nat → Nat → Int64} {x1 y0 : Int32} (k1 : y0 = 0 → wp X (d + 1) k_S_fault 0 0 27 [some (.ref 0), some (.int x1)] [] (mk vi vl) post) (k2 : ¬ y0 = 0 → wp X (d + 1) k_S_fault 0 0 21 [some (.ref 0), some (.int x1)] [] (mk vi vl) post) : wp X (d + 1) k_S_fault 0 0 18 [some (.ref 0), some (.int x1)] [.int y0] (mk vi vl) post :=
  wr_if_eq (off := 9) (t := 27) (by decide +kernel) (by decide) k1 k2
theorem b_S_fault_21 {X : aX} {d : Nat} {post : aO} {vi : Nat → Nat → Int32} {vl : Nat → Nat → Int64} {x1 : Int32} (k1 : CallOk X d 0 0 k_S_refuse [.ref 0, .int (1 : Int32)] (mk vi vl) (fun r N' => wp X (d + 1) k_S_fault 0 0 26 [some (.ref 0), some (.int x1)] (pR r []) N' post)) : wp X (d + 1) k_S_fault 0 0 21 [some (.ref 0), some (.int x1)] [] (mk vi vl) post :=
  wr_aload_n (q := 0) (by decide +kernel) rfl rfl <|
  wr_iconst (n := 1) (v := (1 : Int32)) (by decide +kernel) (by decide) <|
  wr_invV (a := 0) (ci := 3) (mid2 := 8) (idx := 64) (b1 := 0) (b2 := 0) (c1 := 0) (c2 := 0) (as := [.int (1 : Int32)]) (st := []) pl_8 rfl (Nat.le_of_ble_eq_true rfl) rfl rfl lq_0 sq_0 (by decide) rfl lm_S_64 im_8 is_8 (by decide +kernel) k1
theorem b_S_fault_26 {X : aX} {d : Nat} {post : aO} {vi : Nat → Nat → Int32} {vl : Nat → Nat → Int64} {x1 y0 : Int32} (k1 : post (some (.int y0)) (mk vi vl)) : wp X (d + 1) k_S_fault 0 0 26 [some (.ref 0), some (.int x1)] [.int y0] (mk vi vl) post :=
  wr_ret (r := some (.int y0)) (Or.inr (Or.inl ⟨_, rfl, (by decide +kernel), (Or.inl rfl)⟩)) k1
theorem b_S_fault_27 {X : aX} {d : Nat} {post : aO} {vi : Nat → Nat → Int32} {vl : Nat → Nat → Int64} {x1 : Int32} (q1 : vp_in x1 4) (k1 : CallOk X d 0 0 k_D_read [.ref (54 + 2 * x1.toNatClampNeg), .ref 14] (mk vi vl) (fun r N' => wp X (d + 1) k_S_fault 0 0 40 [some (.ref 0), some (.int x1)] (pR r []) N' post)) : wp X (d + 1) k_S_fault 0 0 27 [some (.ref 0), some (.int x1)] [] (mk vi vl) post :=
  wr_aload_n (q := 0) (by decide +kernel) rfl rfl <|
  wr_getR2 (b := 2) (ci := 3) (k0 := 1) (idx := 15) lq_0 sq_0 (by decide) (by decide) lf_S_15 rfl vq_0_1 lq_2 (by decide +kernel) <|
  wr_iload_n (q := 1) (by decide +kernel) rfl rfl <|
  wr_aald2 (b := 54 + 2 * x1.toNatClampNeg) lq_2 sq_2 (Or.inl rfl) q1 (texts_v (vin_lt q1)) (rw_lt0 (texts_i (vin_lt q1))) (by decide +kernel) <|
  wr_aload_n (q := 0) (by decide +kernel) rfl rfl <|
  wr_getR2 (b := 14) (ci := 3) (k0 := 3) (idx := 25) lq_0 sq_0 (by decide) (by decide) lf_S_25 rfl vq_0_3 lq_14 (by decide +kernel) <|
  wr_invS (mid2 := 26) (idx := 102) (b1 := 0) (b2 := 0) (c1 := 0) (c2 := 0) (as := [.ref (54 + 2 * x1.toNatClampNeg), .ref 14]) (st := []) pl_26 rfl (Nat.le_of_ble_eq_true rfl) rfl rfl lm_S_102 it_26 (by decide +kernel) k1
theorem b_S_fault_40 {X : aX} {d : Nat} {post : aO} {vi : Nat → Nat → Int32} {vl : Nat → Nat → Int64} {x1 y0 : Int32} (k1 : post (some (.int y0)) (mk vi vl)) : wp X (d + 1) k_S_fault 0 0 40 [some (.ref 0), some (.int x1)] [.int y0] (mk vi vl) post :=
  wr_ret (r := some (.int y0)) (Or.inr (Or.inl ⟨_, rfl, (by decide +kernel), (Or.inl rfl)⟩)) k1
theorem b_S_isScene_0 {X : aX} {d : Nat} {post : aO} {vi : Nat → Nat → Int32} {vl : Nat → Nat → Int64} {x0 : Int32} (k1 : x0 < 0 → wp X (d + 1) k_S_isScene 0 0 13 [some (.int x0)] [] (mk vi vl) post) (k2 : ¬ x0 < 0 → wp X (d + 1) k_S_isScene 0 0 4 [some (.int x0)] [] (mk vi vl) post) : wp X (d + 1) k_S_isScene 0 0 0 [some (.int x0)] [] (mk vi vl) post :=
  wr_iload_n (q := 0) (by decide +kernel) rfl rfl <|
  wr_if_lt (off := 12) (t := 13) (by decide +kernel) (by decide) k1 k2
theorem b_S_isScene_4 {X : aX} {d : Nat} {post : aO} {vi : Nat → Nat → Int32} {vl : Nat → Nat → Int64} {x0 : Int32} (k1 : (5 : Int32) ≤ x0 → wp X (d + 1) k_S_isScene 0 0 13 [some (.int x0)] [] (mk vi vl) post) (k2 : ¬ (5 : Int32) ≤ x0 → wp X (d + 1) k_S_isScene 0 0 9 [some (.int x0)] [] (mk vi vl) post) : wp X (d + 1) k_S_isScene 0 0 4 [some (.int x0)] [] (mk vi vl) post :=
  wr_iload_n (q := 0) (by decide +kernel) rfl rfl <|
  wr_iconst (n := 5) (v := (5 : Int32)) (by decide +kernel) (by decide) <|
  wr_icmp_ge (off := 7) (t := 13) (by decide +kernel) (by decide) k1 k2
theorem b_S_isScene_9 {X : aX} {d : Nat} {post : aO} {vi : Nat → Nat → Int32} {vl : Nat → Nat → Int64} {x0 : Int32} (k1 : wp X (d + 1) k_S_isScene 0 0 14 [some (.int x0)] [.int (1 : Int32)] (mk vi vl) post) : wp X (d + 1) k_S_isScene 0 0 9 [some (.int x0)] [] (mk vi vl) post :=
  wr_iconst (n := 1) (v := (1 : Int32)) (by decide +kernel) (by decide) <|
  wr_goto (off := 4) (t := 14) (by decide +kernel) (by decide) k1
theorem b_S_isScene_13 {X : aX} {d : Nat} {post : aO} {vi : Nat → Nat → Int32} {vl : Nat → Nat → Int64} {x0 : Int32} (k1 : wp X (d + 1) k_S_isScene 0 0 14 [some (.int x0)] [.int (0 : Int32)] (mk vi vl) post) : wp X (d + 1) k_S_isScene 0 0 13 [some (.int x0)] [] (mk vi vl) post :=
  wr_iconst (n := 0) (v := (0 : Int32)) (by decide +kernel) (by decide) <|
  k1
theorem b_S_isScene_14 {X : aX} {d : Nat} {post : aO} {vi : Nat → Nat → Int32} {vl : Nat → Nat → Int64} {x0 y0 : Int32} (q1 : y0 = 0 ∨ y0 = 1) (k1 : post (some (.int y0)) (mk vi vl)) : wp X (d + 1) k_S_isScene 0 0 14 [some (.int x0)] [.int y0] (mk vi vl) post :=
  wr_ret (r := some (.int y0)) (Or.inr (Or.inl ⟨_, rfl, (by decide +kernel), (Or.inr ⟨rfl, q1⟩)⟩)) k1
theorem b_S_cloth_0 {X : aX} {d : Nat} {post : aO} {vi : Nat → Nat → Int32} {vl : Nat → Nat → Int64} {x1 : Int32} (k1 : CallOk X d 0 0 k_S_isText [.int x1] (mk vi vl) (fun r N' => wp X (d + 1) k_S_cloth 0 0 4 [some (.ref 0), some (.int x1), none] (pR r []) N' post)) : wp X (d + 1) k_S_cloth 0 0 0 [some (.ref 0), some (.int x1), none] [] (mk vi vl) post :=
  wr_iload_n (q := 1) (by decide +kernel) rfl rfl <|
  wr_invS (mid2 := 23) (idx := 99) (b1 := 0) (b2 := 0) (c1 := 0) (c2 := 0) (as := [.int x1]) (st := []) pl_23 rfl (Nat.le_of_ble_eq_true rfl) rfl rfl lm_S_99 it_23 (by decide +kernel) k1
theorem b_S_cloth_4 {X : aX} {d : Nat} {post : aO} {vi : Nat → Nat → Int32} {vl : Nat → Nat → Int64} {x1 y0 : Int32} {o2 : Option Value} (k1 : ¬ y0 = 0 → wp X (d + 1) k_S_cloth 0 0 9 [some (.ref 0), some (.int x1), o2] [] (mk vi vl) post) (k2 : y0 = 0 → wp X (d + 1) k_S_cloth 0 0 7 [some (.ref 0), some (.int x1), o2] [] (mk vi vl) post) : wp X (d + 1) k_S_cloth 0 0 4 [some (.ref 0), some (.int x1), o2] [.int y0] (mk vi vl) post :=
  wr_if_ne (off := 5) (t := 9) (by decide +kernel) (by decide) k1 k2
theorem b_S_cloth_7 {X : aX} {d : Nat} {post : aO} {vi : Nat → Nat → Int32} {vl : Nat → Nat → Int64} {x1 : Int32} {o2 : Option Value} (k1 : post (some (.int (-1 : Int32))) (mk vi vl)) : wp X (d + 1) k_S_cloth 0 0 7 [some (.ref 0), some (.int x1), o2] [] (mk vi vl) post :=
  wr_iconst (n := -1) (v := (-1 : Int32)) (by decide +kernel) (by decide) <|
  wr_ret (r := some (.int (-1 : Int32))) (Or.inr (Or.inl ⟨_, rfl, (by decide +kernel), (Or.inl rfl)⟩)) k1
theorem b_S_cloth_9 {X : aX} {d : Nat} {post : aO} {vi : Nat → Nat → Int32} {vl : Nat → Nat → Int64} {x1 : Int32} {o2 : Option Value} (q1 : vp_in x1 4) (k1 : CallOk X d 0 0 k_R_isMissing [.ref (54 + 2 * x1.toNatClampNeg)] (mk vi vl) (fun r N' => wp X (d + 1) k_S_cloth 0 0 18 [some (.ref 0), some (.int x1), o2] (pR r []) N' post)) : wp X (d + 1) k_S_cloth 0 0 9 [some (.ref 0), some (.int x1), o2] [] (mk vi vl) post :=
  wr_aload_n (q := 0) (by decide +kernel) rfl rfl <|
  wr_getR2 (b := 2) (ci := 3) (k0 := 1) (idx := 15) lq_0 sq_0 (by decide) (by decide) lf_S_15 rfl vq_0_1 lq_2 (by decide +kernel) <|
  wr_iload_n (q := 1) (by decide +kernel) rfl rfl <|
  wr_aald2 (b := 54 + 2 * x1.toNatClampNeg) lq_2 sq_2 (Or.inl rfl) q1 (texts_v (vin_lt q1)) (rw_lt0 (texts_i (vin_lt q1))) (by decide +kernel) <|
  wr_invV (a := 54 + 2 * x1.toNatClampNeg) (ci := 2) (mid2 := 14) (idx := 79) (b1 := 0) (b2 := 0) (c1 := 0) (c2 := 0) (as := []) (st := []) pl_14 rfl (Nat.le_of_ble_eq_true rfl) rfl rfl (rw_lt0 (texts_i (vin_lt q1))) (rw_s0 (texts_i (vin_lt q1))) (by decide) rfl lm_S_79 im_14 is_14 (by decide +kernel) k1
theorem b_S_cloth_18 {X : aX} {d : Nat} {post : aO} {vi : Nat → Nat → Int32} {vl : Nat → Nat → Int64} {x1 y0 : Int32} {o2 : Option Value} (k1 : y0 = 0 → wp X (d + 1) k_S_cloth 0 0 27 [some (.ref 0), some (.int x1), o2] [] (mk vi vl) post) (k2 : ¬ y0 = 0 → wp X (d + 1) k_S_cloth 0 0 21 [some (.ref 0), some (.int x1), o2] [] (mk vi vl) post) : wp X (d + 1) k_S_cloth 0 0 18 [some (.ref 0), some (.int x1), o2] [.int y0] (mk vi vl) post :=
  wr_if_eq (off := 9) (t := 27) (by decide +kernel) (by decide) k1 k2
theorem b_S_cloth_21 {X : aX} {d : Nat} {post : aO} {vi : Nat → Nat → Int32} {vl : Nat → Nat → Int64} {x1 : Int32} {o2 : Option Value} (k1 : CallOk X d 0 0 k_S_refuse [.ref 0, .int (1 : Int32)] (mk vi vl) (fun r N' => wp X (d + 1) k_S_cloth 0 0 26 [some (.ref 0), some (.int x1), o2] (pR r []) N' post)) : wp X (d + 1) k_S_cloth 0 0 21 [some (.ref 0), some (.int x1), o2] [] (mk vi vl) post :=
  wr_aload_n (q := 0) (by decide +kernel) rfl rfl <|
  wr_iconst (n := 1) (v := (1 : Int32)) (by decide +kernel) (by decide) <|
  wr_invV (a := 0) (ci := 3) (mid2 := 8) (idx := 64) (b1 := 0) (b2 := 0) (c1 := 0) (c2 := 0) (as := [.int (1 : Int32)]) (st := []) pl_8 rfl (Nat.le_of_ble_eq_true rfl) rfl rfl lq_0 sq_0 (by decide) rfl lm_S_64 im_8 is_8 (by decide +kernel) k1
theorem b_S_cloth_26 {X : aX} {d : Nat} {post : aO} {vi : Nat → Nat → Int32} {vl : Nat → Nat → Int64} {x1 y0 : Int32} {o2 : Option Value} (k1 : post (some (.int y0)) (mk vi vl)) : wp X (d + 1) k_S_cloth 0 0 26 [some (.ref 0), some (.int x1), o2] [.int y0] (mk vi vl) post :=
  wr_ret (r := some (.int y0)) (Or.inr (Or.inl ⟨_, rfl, (by decide +kernel), (Or.inl rfl)⟩)) k1
theorem b_S_cloth_27 {X : aX} {d : Nat} {post : aO} {vi : Nat → Nat → Int32} {vl : Nat → Nat → Int64} {x1 : Int32} {o2 : Option Value} (q1 : vp_in x1 4) (k1 : CallOk X d 0 0 k_D_read [.ref (54 + 2 * x1.toNatClampNeg), .ref 14] (mk vi vl) (fun r N' => wp X (d + 1) k_S_cloth 0 0 40 [some (.ref 0), some (.int x1), o2] (pR r []) N' post)) : wp X (d + 1) k_S_cloth 0 0 27 [some (.ref 0), some (.int x1), o2] [] (mk vi vl) post :=
  wr_aload_n (q := 0) (by decide +kernel) rfl rfl <|
  wr_getR2 (b := 2) (ci := 3) (k0 := 1) (idx := 15) lq_0 sq_0 (by decide) (by decide) lf_S_15 rfl vq_0_1 lq_2 (by decide +kernel) <|
  wr_iload_n (q := 1) (by decide +kernel) rfl rfl <|
  wr_aald2 (b := 54 + 2 * x1.toNatClampNeg) lq_2 sq_2 (Or.inl rfl) q1 (texts_v (vin_lt q1)) (rw_lt0 (texts_i (vin_lt q1))) (by decide +kernel) <|
  wr_aload_n (q := 0) (by decide +kernel) rfl rfl <|
  wr_getR2 (b := 14) (ci := 3) (k0 := 3) (idx := 25) lq_0 sq_0 (by decide) (by decide) lf_S_25 rfl vq_0_3 lq_14 (by decide +kernel) <|
  wr_invS (mid2 := 26) (idx := 102) (b1 := 0) (b2 := 0) (c1 := 0) (c2 := 0) (as := [.ref (54 + 2 * x1.toNatClampNeg), .ref 14]) (st := []) pl_26 rfl (Nat.le_of_ble_eq_true rfl) rfl rfl lm_S_102 it_26 (by decide +kernel) k1
theorem b_S_cloth_40 {X : aX} {d : Nat} {post : aO} {vi : Nat → Nat → Int32} {vl : Nat → Nat → Int64} {x1 y0 : Int32} {o2 : Option Value} (k1 : y0 = (-9 : Int32) → wp X (d + 1) k_S_cloth 0 0 48 [some (.ref 0), some (.int x1), o2] [] (mk vi vl) post) (k2 : ¬ y0 = (-9 : Int32) → wp X (d + 1) k_S_cloth 0 0 45 [some (.ref 0), some (.int x1), o2] [] (mk vi vl) post) : wp X (d + 1) k_S_cloth 0 0 40 [some (.ref 0), some (.int x1), o2] [.int y0] (mk vi vl) post :=
  wr_bipush (n := -9) (v := (-9 : Int32)) (by decide +kernel) (by decide) <|
  wr_icmp_eq (off := 6) (t := 48) (by decide +kernel) (by decide) k1 k2
theorem b_S_cloth_45 {X : aX} {d : Nat} {post : aO} {vi : Nat → Nat → Int32} {vl : Nat → Nat → Int64} {x1 : Int32} {o2 : Option Value} (k1 : post (some (.int (-4 : Int32))) (mk vi vl)) : wp X (d + 1) k_S_cloth 0 0 45 [some (.ref 0), some (.int x1), o2] [] (mk vi vl) post :=
  wr_bipush (n := -4) (v := (-4 : Int32)) (by decide +kernel) (by decide) <|
  wr_ret (r := some (.int (-4 : Int32))) (Or.inr (Or.inl ⟨_, rfl, (by decide +kernel), (Or.inl rfl)⟩)) k1
theorem b_S_cloth_48 {X : aX} {d : Nat} {post : aO} {vi : Nat → Nat → Int32} {vl : Nat → Nat → Int64} {x1 : Int32} {o2 : Option Value} (k1 : CallOk X d 0 0 k_C_take [.ref 3, .ref 14] (mk vi vl) (fun r N' => wp X (d + 1) k_S_cloth 0 0 59 [some (.ref 0), some (.int x1), o2] (pR r []) N' post)) : wp X (d + 1) k_S_cloth 0 0 48 [some (.ref 0), some (.int x1), o2] [] (mk vi vl) post :=
  wr_aload_n (q := 0) (by decide +kernel) rfl rfl <|
  wr_getR2 (b := 3) (ci := 3) (k0 := 2) (idx := 21) lq_0 sq_0 (by decide) (by decide) lf_S_21 rfl vq_0_2 lq_3 (by decide +kernel) <|
  wr_aload_n (q := 0) (by decide +kernel) rfl rfl <|
  wr_getR2 (b := 14) (ci := 3) (k0 := 3) (idx := 25) lq_0 sq_0 (by decide) (by decide) lf_S_25 rfl vq_0_3 lq_14 (by decide +kernel) <|
  wr_invV (a := 3) (ci := 0) (mid2 := 38) (idx := 108) (b1 := 0) (b2 := 0) (c1 := 0) (c2 := 0) (as := [.ref 14]) (st := []) pl_38 rfl (Nat.le_of_ble_eq_true rfl) rfl rfl lq_3 sq_3 (by decide) rfl lm_S_108 im_38 is_38 (by decide +kernel) k1
theorem b_S_cloth_59 {X : aX} {d : Nat} {post : aO} {vi : Nat → Nat → Int32} {vl : Nat → Nat → Int64} {x1 : Int32} {o2 : Option Value} (k1 : CallOk X d 0 0 k_C_settleFrom [.ref 3, .int (0 : Int32)] (mk vi vl) (fun r N' => wp X (d + 1) k_S_cloth 0 0 67 [some (.ref 0), some (.int x1), o2] (pR r []) N' post)) : wp X (d + 1) k_S_cloth 0 0 59 [some (.ref 0), some (.int x1), o2] [] (mk vi vl) post :=
  wr_aload_n (q := 0) (by decide +kernel) rfl rfl <|
  wr_getR2 (b := 3) (ci := 3) (k0 := 2) (idx := 21) lq_0 sq_0 (by decide) (by decide) lf_S_21 rfl vq_0_2 lq_3 (by decide +kernel) <|
  wr_iconst (n := 0) (v := (0 : Int32)) (by decide +kernel) (by decide) <|
  wr_invV (a := 3) (ci := 0) (mid2 := 39) (idx := 112) (b1 := 0) (b2 := 0) (c1 := 0) (c2 := 0) (as := [.int (0 : Int32)]) (st := []) pl_39 rfl (Nat.le_of_ble_eq_true rfl) rfl rfl lq_3 sq_3 (by decide) rfl lm_S_112 im_39 is_39 (by decide +kernel) k1
theorem b_S_cloth_67 {X : aX} {d : Nat} {post : aO} {vi : Nat → Nat → Int32} {vl : Nat → Nat → Int64} {x1 : Int32} {o2 : Option Value} (k1 : wp X (d + 1) k_S_cloth 0 0 69 [some (.ref 0), some (.int x1), some (.int (0 : Int32))] [] (mk vi vl) post) : wp X (d + 1) k_S_cloth 0 0 67 [some (.ref 0), some (.int x1), o2] [] (mk vi vl) post :=
  wr_iconst (n := 0) (v := (0 : Int32)) (by decide +kernel) (by decide) <|
  wr_istore_n (q := 2) (by decide +kernel) rfl (by decide) <|
  k1
theorem b_S_cloth_69 {X : aX} {d : Nat} {post : aO} {vi : Nat → Nat → Int32} {vl : Nat → Nat → Int64} {x1 x2 : Int32} (k1 : (3 : Int32) ≤ x2 → wp X (d + 1) k_S_cloth 0 0 89 [some (.ref 0), some (.int x1), some (.int x2)] [] (mk vi vl) post) (k2 : ¬ (3 : Int32) ≤ x2 → wp X (d + 1) k_S_cloth 0 0 74 [some (.ref 0), some (.int x1), some (.int x2)] [] (mk vi vl) post) : wp X (d + 1) k_S_cloth 0 0 69 [some (.ref 0), some (.int x1), some (.int x2)] [] (mk vi vl) post :=
  wr_iload_n (q := 2) (by decide +kernel) rfl rfl <|
  wr_iconst (n := 3) (v := (3 : Int32)) (by decide +kernel) (by decide) <|
  wr_icmp_ge (off := 18) (t := 89) (by decide +kernel) (by decide) k1 k2
theorem b_S_cloth_74 {X : aX} {d : Nat} {post : aO} {vi : Nat → Nat → Int32} {vl : Nat → Nat → Int64} {x1 x2 : Int32} (q1 : vp_in x2 3) (k1 : CallOk X d 0 0 k_C_clear [.ref (62 + 11 * x2.toNatClampNeg)] (mk vi vl) (fun r N' => wp X (d + 1) k_S_cloth 0 0 83 [some (.ref 0), some (.int x1), some (.int x2)] (pR r []) N' post)) : wp X (d + 1) k_S_cloth 0 0 74 [some (.ref 0), some (.int x1), some (.int x2)] [] (mk vi vl) post :=
  wr_aload_n (q := 0) (by decide +kernel) rfl rfl <|
  wr_getR2 (b := 25) (ci := 3) (k0 := 4) (idx := 28) lq_0 sq_0 (by decide) (by decide) lf_S_28 rfl vq_0_4 lq_25 (by decide +kernel) <|
  wr_iload_n (q := 2) (by decide +kernel) rfl rfl <|
  wr_aald2 (b := 62 + 11 * x2.toNatClampNeg) lq_25 sq_25 (Or.inr rfl) q1 (kept_v (vin_lt q1)) (cl_lt0 (kept_i (vin_lt q1))) (by decide +kernel) <|
  wr_invV (a := 62 + 11 * x2.toNatClampNeg) (ci := 0) (mid2 := 27) (idx := 115) (b1 := 0) (b2 := 0) (c1 := 0) (c2 := 0) (as := []) (st := []) pl_27 rfl (Nat.le_of_ble_eq_true rfl) rfl rfl (cl_lt0 (kept_i (vin_lt q1))) (cl_s0 (kept_i (vin_lt q1))) (by decide) rfl lm_S_115 im_27 is_27 (by decide +kernel) k1
theorem b_S_cloth_83 {X : aX} {d : Nat} {post : aO} {vi : Nat → Nat → Int32} {vl : Nat → Nat → Int64} {x1 x2 : Int32} (k1 : wp X (d + 1) k_S_cloth 0 0 69 [some (.ref 0), some (.int x1), some (.int (x2 + (1 : Int32)))] [] (mk vi vl) post) : wp X (d + 1) k_S_cloth 0 0 83 [some (.ref 0), some (.int x1), some (.int x2)] [] (mk vi vl) post :=
  wr_iinc (i := 2) (n := 1) (v := (1 : Int32)) (by decide +kernel) rfl (by decide) (by decide) <|
  wr_goto (off := -17) (t := 69) (by decide +kernel) (by decide) k1
theorem b_S_cloth_89 {X : aX} {d : Nat} {post : aO} {vi : Nat → Nat → Int32} {vl : Nat → Nat → Int64} {x1 x2 : Int32} (k1 : post (some (.int (vi 3 0))) (mk vi vl)) : wp X (d + 1) k_S_cloth 0 0 89 [some (.ref 0), some (.int x1), some (.int x2)] [] (mk vi vl) post :=
  wr_aload_n (q := 0) (by decide +kernel) rfl rfl <|
  wr_getR2 (b := 3) (ci := 3) (k0 := 2) (idx := 21) lq_0 sq_0 (by decide) (by decide) lf_S_21 rfl vq_0_2 lq_3 (by decide +kernel) <|
  wr_getI (ci := 0) (k0 := 0) (idx := 118) lq_3 sq_3 (by decide) (by decide) lf_S_118 (Or.inl rfl) (by decide +kernel) <|
  wr_ret (r := some (.int (vi 3 0))) (Or.inr (Or.inl ⟨_, rfl, (by decide +kernel), (Or.inl rfl)⟩)) k1
theorem b_S_year_0 {X : aX} {d : Nat} {post : aO} {vi : Nat → Nat → Int32} {vl : Nat → Nat → Int64} {x1 x2 : Int32} (k1 : CallOk X d 0 0 k_S_isYear [.ref 0, .int x1] (mk vi vl) (fun r N' => wp X (d + 1) k_S_year 0 0 5 [some (.ref 0), some (.int x1), some (.int x2)] (pR r []) N' post)) : wp X (d + 1) k_S_year 0 0 0 [some (.ref 0), some (.int x1), some (.int x2)] [] (mk vi vl) post :=
  wr_aload_n (q := 0) (by decide +kernel) rfl rfl <|
  wr_iload_n (q := 1) (by decide +kernel) rfl rfl <|
  wr_invV (a := 0) (ci := 3) (mid2 := 45) (idx := 121) (b1 := 0) (b2 := 0) (c1 := 0) (c2 := 0) (as := [.int x1]) (st := []) pl_45 rfl (Nat.le_of_ble_eq_true rfl) rfl rfl lq_0 sq_0 (by decide) rfl lm_S_121 im_45 is_45 (by decide +kernel) k1
theorem b_S_year_5 {X : aX} {d : Nat} {post : aO} {vi : Nat → Nat → Int32} {vl : Nat → Nat → Int64} {x1 x2 y0 : Int32} (k1 : y0 = 0 → wp X (d + 1) k_S_year 0 0 17 [some (.ref 0), some (.int x1), some (.int x2)] [] (mk vi vl) post) (k2 : ¬ y0 = 0 → wp X (d + 1) k_S_year 0 0 8 [some (.ref 0), some (.int x1), some (.int x2)] [] (mk vi vl) post) : wp X (d + 1) k_S_year 0 0 5 [some (.ref 0), some (.int x1), some (.int x2)] [.int y0] (mk vi vl) post :=
  wr_if_eq (off := 12) (t := 17) (by decide +kernel) (by decide) k1 k2
theorem b_S_year_8 {X : aX} {d : Nat} {post : aO} {vi : Nat → Nat → Int32} {vl : Nat → Nat → Int64} {x1 x2 : Int32} (k1 : x2 < 0 → wp X (d + 1) k_S_year 0 0 17 [some (.ref 0), some (.int x1), some (.int x2)] [] (mk vi vl) post) (k2 : ¬ x2 < 0 → wp X (d + 1) k_S_year 0 0 12 [some (.ref 0), some (.int x1), some (.int x2)] [] (mk vi vl) post) : wp X (d + 1) k_S_year 0 0 8 [some (.ref 0), some (.int x1), some (.int x2)] [] (mk vi vl) post :=
  wr_iload_n (q := 2) (by decide +kernel) rfl rfl <|
  wr_if_lt (off := 8) (t := 17) (by decide +kernel) (by decide) k1 k2
theorem b_S_year_12 {X : aX} {d : Nat} {post : aO} {vi : Nat → Nat → Int32} {vl : Nat → Nat → Int64} {x1 x2 : Int32} (k1 : x2 ≤ (2 : Int32) → wp X (d + 1) k_S_year 0 0 19 [some (.ref 0), some (.int x1), some (.int x2)] [] (mk vi vl) post) (k2 : ¬ x2 ≤ (2 : Int32) → wp X (d + 1) k_S_year 0 0 17 [some (.ref 0), some (.int x1), some (.int x2)] [] (mk vi vl) post) : wp X (d + 1) k_S_year 0 0 12 [some (.ref 0), some (.int x1), some (.int x2)] [] (mk vi vl) post :=
  wr_iload_n (q := 2) (by decide +kernel) rfl rfl <|
  wr_iconst (n := 2) (v := (2 : Int32)) (by decide +kernel) (by decide) <|
  wr_icmp_le (off := 5) (t := 19) (by decide +kernel) (by decide) k1 k2
theorem b_S_year_17 {X : aX} {d : Nat} {post : aO} {vi : Nat → Nat → Int32} {vl : Nat → Nat → Int64} {x1 x2 : Int32} (k1 : post (some (.int (-1 : Int32))) (mk vi vl)) : wp X (d + 1) k_S_year 0 0 17 [some (.ref 0), some (.int x1), some (.int x2)] [] (mk vi vl) post :=
  wr_iconst (n := -1) (v := (-1 : Int32)) (by decide +kernel) (by decide) <|
  wr_ret (r := some (.int (-1 : Int32))) (Or.inr (Or.inl ⟨_, rfl, (by decide +kernel), (Or.inl rfl)⟩)) k1
theorem b_S_year_19 {X : aX} {d : Nat} {post : aO} {vi : Nat → Nat → Int32} {vl : Nat → Nat → Int64} {x1 x2 : Int32} (k1 : CallOk X d 0 0 k_S_ofYear [.ref 0, .int x1, .int x2] (mk vi vl) (fun r N' => wp X (d + 1) k_S_year 0 0 26 [some (.ref 0), some (.int x1), some (.int x2)] (pR r [.ref 0]) N' post)) : wp X (d + 1) k_S_year 0 0 19 [some (.ref 0), some (.int x1), some (.int x2)] [] (mk vi vl) post :=
  wr_aload_n (q := 0) (by decide +kernel) rfl rfl <|
  wr_aload_n (q := 0) (by decide +kernel) rfl rfl <|
  wr_iload_n (q := 1) (by decide +kernel) rfl rfl <|
  wr_iload_n (q := 2) (by decide +kernel) rfl rfl <|
  wr_invV (a := 0) (ci := 3) (mid2 := 46) (idx := 124) (b1 := 0) (b2 := 0) (c1 := 0) (c2 := 0) (as := [.int x1, .int x2]) (st := [.ref 0]) pl_46 rfl (Nat.le_of_ble_eq_true rfl) rfl rfl lq_0 sq_0 (by decide) rfl lm_S_124 im_46 is_46 (by decide +kernel) k1
theorem b_S_year_26 {X : aX} {d : Nat} {post : aO} {vi : Nat → Nat → Int32} {vl : Nat → Nat → Int64} {x1 x2 y1 : Int32} (k1 : ∀ w, w = up2 vi 0 8 y1 → wp X (d + 1) k_S_year 0 0 29 [some (.ref 0), some (.int x1), some (.int x2)] [] (mk w vl) post) : wp X (d + 1) k_S_year 0 0 26 [some (.ref 0), some (.int x1), some (.int x2)] [.int y1, .ref 0] (mk vi vl) post :=
  wr_putI (ci := 3) (k0 := 8) (idx := 47) lq_0 sq_0 (by decide) (by decide) lf_S_47 rfl (by decide +kernel) <|
  k1 _ rfl
theorem b_S_year_29 {X : aX} {d : Nat} {post : aO} {vi : Nat → Nat → Int32} {vl : Nat → Nat → Int64} {x1 x2 : Int32} (k1 : post (some (.int (1 : Int32))) (mk vi vl)) : wp X (d + 1) k_S_year 0 0 29 [some (.ref 0), some (.int x1), some (.int x2)] [] (mk vi vl) post :=
  wr_iconst (n := 1) (v := (1 : Int32)) (by decide +kernel) (by decide) <|
  wr_ret (r := some (.int (1 : Int32))) (Or.inr (Or.inl ⟨_, rfl, (by decide +kernel), (Or.inl rfl)⟩)) k1
theorem b_S_isYear_0 {X : aX} {d : Nat} {post : aO} {vi : Nat → Nat → Int32} {vl : Nat → Nat → Int64} {x1 : Int32} (k1 : x1 < 0 → wp X (d + 1) k_S_isYear 0 0 19 [some (.ref 0), some (.int x1)] [] (mk vi vl) post) (k2 : ¬ x1 < 0 → wp X (d + 1) k_S_isYear 0 0 4 [some (.ref 0), some (.int x1)] [] (mk vi vl) post) : wp X (d + 1) k_S_isYear 0 0 0 [some (.ref 0), some (.int x1)] [] (mk vi vl) post :=
  wr_iload_n (q := 1) (by decide +kernel) rfl rfl <|
  wr_if_lt (off := 18) (t := 19) (by decide +kernel) (by decide) k1 k2
theorem b_S_isYear_4 {X : aX} {d : Nat} {post : aO} {vi : Nat → Nat → Int32} {vl : Nat → Nat → Int64} {x1 : Int32} (k1 : (vi 3 0) ≤ x1 → wp X (d + 1) k_S_isYear 0 0 19 [some (.ref 0), some (.int x1)] [] (mk vi vl) post) (k2 : ¬ (vi 3 0) ≤ x1 → wp X (d + 1) k_S_isYear 0 0 15 [some (.ref 0), some (.int x1)] [] (mk vi vl) post) : wp X (d + 1) k_S_isYear 0 0 4 [some (.ref 0), some (.int x1)] [] (mk vi vl) post :=
  wr_iload_n (q := 1) (by decide +kernel) rfl rfl <|
  wr_aload_n (q := 0) (by decide +kernel) rfl rfl <|
  wr_getR2 (b := 3) (ci := 3) (k0 := 2) (idx := 21) lq_0 sq_0 (by decide) (by decide) lf_S_21 rfl vq_0_2 lq_3 (by decide +kernel) <|
  wr_getI (ci := 0) (k0 := 0) (idx := 118) lq_3 sq_3 (by decide) (by decide) lf_S_118 (Or.inl rfl) (by decide +kernel) <|
  wr_icmp_ge (off := 7) (t := 19) (by decide +kernel) (by decide) k1 k2
theorem b_S_isYear_15 {X : aX} {d : Nat} {post : aO} {vi : Nat → Nat → Int32} {vl : Nat → Nat → Int64} {x1 : Int32} (k1 : wp X (d + 1) k_S_isYear 0 0 20 [some (.ref 0), some (.int x1)] [.int (1 : Int32)] (mk vi vl) post) : wp X (d + 1) k_S_isYear 0 0 15 [some (.ref 0), some (.int x1)] [] (mk vi vl) post :=
  wr_iconst (n := 1) (v := (1 : Int32)) (by decide +kernel) (by decide) <|
  wr_goto (off := 4) (t := 20) (by decide +kernel) (by decide) k1
theorem b_S_isYear_19 {X : aX} {d : Nat} {post : aO} {vi : Nat → Nat → Int32} {vl : Nat → Nat → Int64} {x1 : Int32} (k1 : wp X (d + 1) k_S_isYear 0 0 20 [some (.ref 0), some (.int x1)] [.int (0 : Int32)] (mk vi vl) post) : wp X (d + 1) k_S_isYear 0 0 19 [some (.ref 0), some (.int x1)] [] (mk vi vl) post :=
  wr_iconst (n := 0) (v := (0 : Int32)) (by decide +kernel) (by decide) <|
  k1
theorem b_S_isYear_20 {X : aX} {d : Nat} {post : aO} {vi : Nat → Nat → Int32} {vl : Nat → Nat → Int64} {x1 y0 : Int32} (q1 : y0 = 0 ∨ y0 = 1) (k1 : post (some (.int y0)) (mk vi vl)) : wp X (d + 1) k_S_isYear 0 0 20 [some (.ref 0), some (.int x1)] [.int y0] (mk vi vl) post :=
  wr_ret (r := some (.int y0)) (Or.inr (Or.inl ⟨_, rfl, (by decide +kernel), (Or.inr ⟨rfl, q1⟩)⟩)) k1
theorem b_S_ofYear_0 {X : aX} {d : Nat} {post : aO} {vi : Nat → Nat → Int32} {vl : Nat → Nat → Int64} {x1 x2 : Int32} (k1 : swk (fun t => wp X (d + 1) k_S_ofYear 0 0 t [some (.ref 0), some (.int x1), some (.int x2)] [] (mk vi vl) post) 48 x2 [((0 : Int32), 28), ((1 : Int32), 38)]) : wp X (d + 1) k_S_ofYear 0 0 0 [some (.ref 0), some (.int x1), some (.int x2)] [] (mk vi vl) post :=
  wr_iload_n (q := 2) (by decide +kernel) rfl rfl <|
  wr_lsw (dflt := 47) (ps := #[(0, 27), (1, 37)]) (len := 27) (dt := 48) (ts := [((0 : Int32), 28), ((1 : Int32), 38)]) (by decide +kernel) (by decide +kernel) (by decide +kernel) (by decide) k1
theorem b_S_ofYear_28 {X : aX} {d : Nat} {post : aO} {vi : Nat → Nat → Int32} {vl : Nat → Nat → Int64} {x1 x2 : Int32} (q1 : vp_in x1 5) (k1 : post (some (.int (vi 4 x1.toNatClampNeg))) (mk vi vl)) : wp X (d + 1) k_S_ofYear 0 0 28 [some (.ref 0), some (.int x1), some (.int x2)] [] (mk vi vl) post :=
  wr_aload_n (q := 0) (by decide +kernel) rfl rfl <|
  wr_getR2 (b := 3) (ci := 3) (k0 := 2) (idx := 21) lq_0 sq_0 (by decide) (by decide) lf_S_21 rfl vq_0_2 lq_3 (by decide +kernel) <|
  wr_getR2 (b := 4) (ci := 0) (k0 := 1) (idx := 179) lq_3 sq_3 (by decide) (by decide) lf_S_179 rfl vq_3_1 lq_4 (by decide +kernel) <|
  wr_iload_n (q := 1) (by decide +kernel) rfl rfl <|
  wr_iald lq_4 sq_4 q1 (by decide +kernel) <|
  wr_ret (r := some (.int (vi 4 x1.toNatClampNeg))) (Or.inr (Or.inl ⟨_, rfl, (by decide +kernel), (Or.inl rfl)⟩)) k1
theorem b_S_ofYear_38 {X : aX} {d : Nat} {post : aO} {vi : Nat → Nat → Int32} {vl : Nat → Nat → Int64} {x1 x2 : Int32} (q1 : vp_in x1 5) (k1 : post (some (.int (vi 5 x1.toNatClampNeg))) (mk vi vl)) : wp X (d + 1) k_S_ofYear 0 0 38 [some (.ref 0), some (.int x1), some (.int x2)] [] (mk vi vl) post :=
  wr_aload_n (q := 0) (by decide +kernel) rfl rfl <|
  wr_getR2 (b := 3) (ci := 3) (k0 := 2) (idx := 21) lq_0 sq_0 (by decide) (by decide) lf_S_21 rfl vq_0_2 lq_3 (by decide +kernel) <|
  wr_getR2 (b := 5) (ci := 0) (k0 := 2) (idx := 278) lq_3 sq_3 (by decide) (by decide) lf_S_278 rfl vq_3_2 lq_5 (by decide +kernel) <|
  wr_iload_n (q := 1) (by decide +kernel) rfl rfl <|
  wr_iald lq_5 sq_5 q1 (by decide +kernel) <|
  wr_ret (r := some (.int (vi 5 x1.toNatClampNeg))) (Or.inr (Or.inl ⟨_, rfl, (by decide +kernel), (Or.inl rfl)⟩)) k1
theorem b_S_ofYear_48 {X : aX} {d : Nat} {post : aO} {vi : Nat → Nat → Int32} {vl : Nat → Nat → Int64} {x1 x2 : Int32} (q1 : vp_in x1 5) (k1 : post (some (.int (vi 12 x1.toNatClampNeg))) (mk vi vl)) : wp X (d + 1) k_S_ofYear 0 0 48 [some (.ref 0), some (.int x1), some (.int x2)] [] (mk vi vl) post :=
  wr_aload_n (q := 0) (by decide +kernel) rfl rfl <|
  wr_getR2 (b := 3) (ci := 3) (k0 := 2) (idx := 21) lq_0 sq_0 (by decide) (by decide) lf_S_21 rfl vq_0_2 lq_3 (by decide +kernel) <|
  wr_getR2 (b := 12) (ci := 0) (k0 := 11) (idx := 228) lq_3 sq_3 (by decide) (by decide) lf_S_228 rfl vq_3_11 lq_12 (by decide +kernel) <|
  wr_iload_n (q := 1) (by decide +kernel) rfl rfl <|
  wr_iald lq_12 sq_12 q1 (by decide +kernel) <|
  wr_ret (r := some (.int (vi 12 x1.toNatClampNeg))) (Or.inr (Or.inl ⟨_, rfl, (by decide +kernel), (Or.inl rfl)⟩)) k1
theorem b_S_law_0 {X : aX} {d : Nat} {post : aO} {vi : Nat → Nat → Int32} {vl : Nat → Nat → Int64} {x1 x2 : Int32} (k1 : CallOk X d 0 0 k_S_isLaw [.ref 0, .int x1] (mk vi vl) (fun r N' => wp X (d + 1) k_S_law 0 0 5 [some (.ref 0), some (.int x1), some (.int x2)] (pR r []) N' post)) : wp X (d + 1) k_S_law 0 0 0 [some (.ref 0), some (.int x1), some (.int x2)] [] (mk vi vl) post :=
  wr_aload_n (q := 0) (by decide +kernel) rfl rfl <|
  wr_iload_n (q := 1) (by decide +kernel) rfl rfl <|
  wr_invV (a := 0) (ci := 3) (mid2 := 48) (idx := 128) (b1 := 0) (b2 := 0) (c1 := 0) (c2 := 0) (as := [.int x1]) (st := []) pl_48 rfl (Nat.le_of_ble_eq_true rfl) rfl rfl lq_0 sq_0 (by decide) rfl lm_S_128 im_48 is_48 (by decide +kernel) k1
theorem b_S_law_5 {X : aX} {d : Nat} {post : aO} {vi : Nat → Nat → Int32} {vl : Nat → Nat → Int64} {x1 x2 y0 : Int32} (k1 : y0 = 0 → wp X (d + 1) k_S_law 0 0 17 [some (.ref 0), some (.int x1), some (.int x2)] [] (mk vi vl) post) (k2 : ¬ y0 = 0 → wp X (d + 1) k_S_law 0 0 8 [some (.ref 0), some (.int x1), some (.int x2)] [] (mk vi vl) post) : wp X (d + 1) k_S_law 0 0 5 [some (.ref 0), some (.int x1), some (.int x2)] [.int y0] (mk vi vl) post :=
  wr_if_eq (off := 12) (t := 17) (by decide +kernel) (by decide) k1 k2
theorem b_S_law_8 {X : aX} {d : Nat} {post : aO} {vi : Nat → Nat → Int32} {vl : Nat → Nat → Int64} {x1 x2 : Int32} (k1 : x2 < 0 → wp X (d + 1) k_S_law 0 0 17 [some (.ref 0), some (.int x1), some (.int x2)] [] (mk vi vl) post) (k2 : ¬ x2 < 0 → wp X (d + 1) k_S_law 0 0 12 [some (.ref 0), some (.int x1), some (.int x2)] [] (mk vi vl) post) : wp X (d + 1) k_S_law 0 0 8 [some (.ref 0), some (.int x1), some (.int x2)] [] (mk vi vl) post :=
  wr_iload_n (q := 2) (by decide +kernel) rfl rfl <|
  wr_if_lt (off := 8) (t := 17) (by decide +kernel) (by decide) k1 k2
theorem b_S_law_12 {X : aX} {d : Nat} {post : aO} {vi : Nat → Nat → Int32} {vl : Nat → Nat → Int64} {x1 x2 : Int32} (k1 : x2 ≤ (3 : Int32) → wp X (d + 1) k_S_law 0 0 19 [some (.ref 0), some (.int x1), some (.int x2)] [] (mk vi vl) post) (k2 : ¬ x2 ≤ (3 : Int32) → wp X (d + 1) k_S_law 0 0 17 [some (.ref 0), some (.int x1), some (.int x2)] [] (mk vi vl) post) : wp X (d + 1) k_S_law 0 0 12 [some (.ref 0), some (.int x1), some (.int x2)] [] (mk vi vl) post :=
  wr_iload_n (q := 2) (by decide +kernel) rfl rfl <|
  wr_iconst (n := 3) (v := (3 : Int32)) (by decide +kernel) (by decide) <|
  wr_icmp_le (off := 5) (t := 19) (by decide +kernel) (by decide) k1 k2
theorem b_S_law_17 {X : aX} {d : Nat} {post : aO} {vi : Nat → Nat → Int32} {vl : Nat → Nat → Int64} {x1 x2 : Int32} (k1 : post (some (.int (-1 : Int32))) (mk vi vl)) : wp X (d + 1) k_S_law 0 0 17 [some (.ref 0), some (.int x1), some (.int x2)] [] (mk vi vl) post :=
  wr_iconst (n := -1) (v := (-1 : Int32)) (by decide +kernel) (by decide) <|
  wr_ret (r := some (.int (-1 : Int32))) (Or.inr (Or.inl ⟨_, rfl, (by decide +kernel), (Or.inl rfl)⟩)) k1
theorem b_S_law_19 {X : aX} {d : Nat} {post : aO} {vi : Nat → Nat → Int32} {vl : Nat → Nat → Int64} {x1 x2 : Int32} (k1 : CallOk X d 0 0 k_S_ofLaw [.ref 0, .int x1, .int x2] (mk vi vl) (fun r N' => wp X (d + 1) k_S_law 0 0 26 [some (.ref 0), some (.int x1), some (.int x2)] (pR r [.ref 0]) N' post)) : wp X (d + 1) k_S_law 0 0 19 [some (.ref 0), some (.int x1), some (.int x2)] [] (mk vi vl) post :=
  wr_aload_n (q := 0) (by decide +kernel) rfl rfl <|
  wr_aload_n (q := 0) (by decide +kernel) rfl rfl <|
  wr_iload_n (q := 1) (by decide +kernel) rfl rfl <|
  wr_iload_n (q := 2) (by decide +kernel) rfl rfl <|
  wr_invV (a := 0) (ci := 3) (mid2 := 49) (idx := 131) (b1 := 0) (b2 := 0) (c1 := 0) (c2 := 0) (as := [.int x1, .int x2]) (st := [.ref 0]) pl_49 rfl (Nat.le_of_ble_eq_true rfl) rfl rfl lq_0 sq_0 (by decide) rfl lm_S_131 im_49 is_49 (by decide +kernel) k1
theorem b_S_law_26 {X : aX} {d : Nat} {post : aO} {vi : Nat → Nat → Int32} {vl : Nat → Nat → Int64} {x1 x2 y1 : Int32} (k1 : ∀ w, w = up2 vi 0 8 y1 → wp X (d + 1) k_S_law 0 0 29 [some (.ref 0), some (.int x1), some (.int x2)] [] (mk w vl) post) : wp X (d + 1) k_S_law 0 0 26 [some (.ref 0), some (.int x1), some (.int x2)] [.int y1, .ref 0] (mk vi vl) post :=
  wr_putI (ci := 3) (k0 := 8) (idx := 47) lq_0 sq_0 (by decide) (by decide) lf_S_47 rfl (by decide +kernel) <|
  k1 _ rfl
theorem b_S_law_29 {X : aX} {d : Nat} {post : aO} {vi : Nat → Nat → Int32} {vl : Nat → Nat → Int64} {x1 x2 : Int32} (k1 : post (some (.int (1 : Int32))) (mk vi vl)) : wp X (d + 1) k_S_law 0 0 29 [some (.ref 0), some (.int x1), some (.int x2)] [] (mk vi vl) post :=
  wr_iconst (n := 1) (v := (1 : Int32)) (by decide +kernel) (by decide) <|
  wr_ret (r := some (.int (1 : Int32))) (Or.inr (Or.inl ⟨_, rfl, (by decide +kernel), (Or.inl rfl)⟩)) k1
theorem b_S_isLaw_0 {X : aX} {d : Nat} {post : aO} {vi : Nat → Nat → Int32} {vl : Nat → Nat → Int64} {x1 : Int32} (k1 : x1 < 0 → wp X (d + 1) k_S_isLaw 0 0 19 [some (.ref 0), some (.int x1)] [] (mk vi vl) post) (k2 : ¬ x1 < 0 → wp X (d + 1) k_S_isLaw 0 0 4 [some (.ref 0), some (.int x1)] [] (mk vi vl) post) : wp X (d + 1) k_S_isLaw 0 0 0 [some (.ref 0), some (.int x1)] [] (mk vi vl) post :=
  wr_iload_n (q := 1) (by decide +kernel) rfl rfl <|
  wr_if_lt (off := 18) (t := 19) (by decide +kernel) (by decide) k1 k2
theorem b_S_isLaw_4 {X : aX} {d : Nat} {post : aO} {vi : Nat → Nat → Int32} {vl : Nat → Nat → Int64} {x1 : Int32} (k1 : (vi 3 3) ≤ x1 → wp X (d + 1) k_S_isLaw 0 0 19 [some (.ref 0), some (.int x1)] [] (mk vi vl) post) (k2 : ¬ (vi 3 3) ≤ x1 → wp X (d + 1) k_S_isLaw 0 0 15 [some (.ref 0), some (.int x1)] [] (mk vi vl) post) : wp X (d + 1) k_S_isLaw 0 0 4 [some (.ref 0), some (.int x1)] [] (mk vi vl) post :=
  wr_iload_n (q := 1) (by decide +kernel) rfl rfl <|
  wr_aload_n (q := 0) (by decide +kernel) rfl rfl <|
  wr_getR2 (b := 3) (ci := 3) (k0 := 2) (idx := 21) lq_0 sq_0 (by decide) (by decide) lf_S_21 rfl vq_0_2 lq_3 (by decide +kernel) <|
  wr_getI (ci := 0) (k0 := 3) (idx := 225) lq_3 sq_3 (by decide) (by decide) lf_S_225 (Or.inl rfl) (by decide +kernel) <|
  wr_icmp_ge (off := 7) (t := 19) (by decide +kernel) (by decide) k1 k2
theorem b_S_isLaw_15 {X : aX} {d : Nat} {post : aO} {vi : Nat → Nat → Int32} {vl : Nat → Nat → Int64} {x1 : Int32} (k1 : wp X (d + 1) k_S_isLaw 0 0 20 [some (.ref 0), some (.int x1)] [.int (1 : Int32)] (mk vi vl) post) : wp X (d + 1) k_S_isLaw 0 0 15 [some (.ref 0), some (.int x1)] [] (mk vi vl) post :=
  wr_iconst (n := 1) (v := (1 : Int32)) (by decide +kernel) (by decide) <|
  wr_goto (off := 4) (t := 20) (by decide +kernel) (by decide) k1
theorem b_S_isLaw_19 {X : aX} {d : Nat} {post : aO} {vi : Nat → Nat → Int32} {vl : Nat → Nat → Int64} {x1 : Int32} (k1 : wp X (d + 1) k_S_isLaw 0 0 20 [some (.ref 0), some (.int x1)] [.int (0 : Int32)] (mk vi vl) post) : wp X (d + 1) k_S_isLaw 0 0 19 [some (.ref 0), some (.int x1)] [] (mk vi vl) post :=
  wr_iconst (n := 0) (v := (0 : Int32)) (by decide +kernel) (by decide) <|
  k1
theorem b_S_isLaw_20 {X : aX} {d : Nat} {post : aO} {vi : Nat → Nat → Int32} {vl : Nat → Nat → Int64} {x1 y0 : Int32} (q1 : y0 = 0 ∨ y0 = 1) (k1 : post (some (.int y0)) (mk vi vl)) : wp X (d + 1) k_S_isLaw 0 0 20 [some (.ref 0), some (.int x1)] [.int y0] (mk vi vl) post :=
  wr_ret (r := some (.int y0)) (Or.inr (Or.inl ⟨_, rfl, (by decide +kernel), (Or.inr ⟨rfl, q1⟩)⟩)) k1
theorem b_S_ofLaw_0 {X : aX} {d : Nat} {post : aO} {vi : Nat → Nat → Int32} {vl : Nat → Nat → Int64} {x1 x2 : Int32} (k1 : swk (fun t => wp X (d + 1) k_S_ofLaw 0 0 t [some (.ref 0), some (.int x1), some (.int x2)] [] (mk vi vl) post) 58 x2 [((0 : Int32), 28), ((1 : Int32), 38), ((2 : Int32), 48)]) : wp X (d + 1) k_S_ofLaw 0 0 0 [some (.ref 0), some (.int x1), some (.int x2)] [] (mk vi vl) post :=
  wr_iload_n (q := 2) (by decide +kernel) rfl rfl <|
  wr_tsw (dflt := 57) (lo := 0) (hi := 2) (offs := #[27, 37, 47]) (len := 27) (dt := 58) (ts := [((0 : Int32), 28), ((1 : Int32), 38), ((2 : Int32), 48)]) (by decide +kernel) (by decide +kernel) (by decide) (by decide) k1
theorem b_S_ofLaw_28 {X : aX} {d : Nat} {post : aO} {vi : Nat → Nat → Int32} {vl : Nat → Nat → Int64} {x1 x2 : Int32} (q1 : vp_in x1 8) (k1 : post (some (.int (vi 6 x1.toNatClampNeg))) (mk vi vl)) : wp X (d + 1) k_S_ofLaw 0 0 28 [some (.ref 0), some (.int x1), some (.int x2)] [] (mk vi vl) post :=
  wr_aload_n (q := 0) (by decide +kernel) rfl rfl <|
  wr_getR2 (b := 3) (ci := 3) (k0 := 2) (idx := 21) lq_0 sq_0 (by decide) (by decide) lf_S_21 rfl vq_0_2 lq_3 (by decide +kernel) <|
  wr_getR2 (b := 6) (ci := 0) (k0 := 4) (idx := 222) lq_3 sq_3 (by decide) (by decide) lf_S_222 rfl vq_3_4 lq_6 (by decide +kernel) <|
  wr_iload_n (q := 1) (by decide +kernel) rfl rfl <|
  wr_iald lq_6 sq_6 q1 (by decide +kernel) <|
  wr_ret (r := some (.int (vi 6 x1.toNatClampNeg))) (Or.inr (Or.inl ⟨_, rfl, (by decide +kernel), (Or.inl rfl)⟩)) k1
theorem b_S_ofLaw_38 {X : aX} {d : Nat} {post : aO} {vi : Nat → Nat → Int32} {vl : Nat → Nat → Int64} {x1 x2 : Int32} (q1 : vp_in x1 8) (k1 : post (some (.int (vi 7 x1.toNatClampNeg))) (mk vi vl)) : wp X (d + 1) k_S_ofLaw 0 0 38 [some (.ref 0), some (.int x1), some (.int x2)] [] (mk vi vl) post :=
  wr_aload_n (q := 0) (by decide +kernel) rfl rfl <|
  wr_getR2 (b := 3) (ci := 3) (k0 := 2) (idx := 21) lq_0 sq_0 (by decide) (by decide) lf_S_21 rfl vq_0_2 lq_3 (by decide +kernel) <|
  wr_getR2 (b := 7) (ci := 0) (k0 := 5) (idx := 137) lq_3 sq_3 (by decide) (by decide) lf_S_137 rfl vq_3_5 lq_7 (by decide +kernel) <|
  wr_iload_n (q := 1) (by decide +kernel) rfl rfl <|
  wr_iald lq_7 sq_7 q1 (by decide +kernel) <|
  wr_ret (r := some (.int (vi 7 x1.toNatClampNeg))) (Or.inr (Or.inl ⟨_, rfl, (by decide +kernel), (Or.inl rfl)⟩)) k1
theorem b_S_ofLaw_48 {X : aX} {d : Nat} {post : aO} {vi : Nat → Nat → Int32} {vl : Nat → Nat → Int64} {x1 x2 : Int32} (q1 : vp_in x1 8) (k1 : post (some (.int (vi 8 x1.toNatClampNeg))) (mk vi vl)) : wp X (d + 1) k_S_ofLaw 0 0 48 [some (.ref 0), some (.int x1), some (.int x2)] [] (mk vi vl) post :=
  wr_aload_n (q := 0) (by decide +kernel) rfl rfl <|
  wr_getR2 (b := 3) (ci := 3) (k0 := 2) (idx := 21) lq_0 sq_0 (by decide) (by decide) lf_S_21 rfl vq_0_2 lq_3 (by decide +kernel) <|
  wr_getR2 (b := 8) (ci := 0) (k0 := 6) (idx := 143) lq_3 sq_3 (by decide) (by decide) lf_S_143 rfl vq_3_6 lq_8 (by decide +kernel) <|
  wr_iload_n (q := 1) (by decide +kernel) rfl rfl <|
  wr_iald lq_8 sq_8 q1 (by decide +kernel) <|
  wr_ret (r := some (.int (vi 8 x1.toNatClampNeg))) (Or.inr (Or.inl ⟨_, rfl, (by decide +kernel), (Or.inl rfl)⟩)) k1
theorem b_S_ofLaw_58 {X : aX} {d : Nat} {post : aO} {vi : Nat → Nat → Int32} {vl : Nat → Nat → Int64} {x1 x2 : Int32} (k1 : CallOk X d 0 0 k_C_isBroken [.ref 3, .int x1] (mk vi vl) (fun r N' => wp X (d + 1) k_S_ofLaw 0 0 66 [some (.ref 0), some (.int x1), some (.int x2)] (pR r []) N' post)) : wp X (d + 1) k_S_ofLaw 0 0 58 [some (.ref 0), some (.int x1), some (.int x2)] [] (mk vi vl) post :=
  wr_aload_n (q := 0) (by decide +kernel) rfl rfl <|
  wr_getR2 (b := 3) (ci := 3) (k0 := 2) (idx := 21) lq_0 sq_0 (by decide) (by decide) lf_S_21 rfl vq_0_2 lq_3 (by decide +kernel) <|
  wr_iload_n (q := 1) (by decide +kernel) rfl rfl <|
  wr_invV (a := 3) (ci := 0) (mid2 := 50) (idx := 281) (b1 := 0) (b2 := 0) (c1 := 0) (c2 := 0) (as := [.int x1]) (st := []) pl_50 rfl (Nat.le_of_ble_eq_true rfl) rfl rfl lq_3 sq_3 (by decide) rfl lm_S_281 im_50 is_50 (by decide +kernel) k1
theorem b_S_ofLaw_66 {X : aX} {d : Nat} {post : aO} {vi : Nat → Nat → Int32} {vl : Nat → Nat → Int64} {x1 x2 y0 : Int32} (k1 : y0 = 0 → wp X (d + 1) k_S_ofLaw 0 0 73 [some (.ref 0), some (.int x1), some (.int x2)] [] (mk vi vl) post) (k2 : ¬ y0 = 0 → wp X (d + 1) k_S_ofLaw 0 0 69 [some (.ref 0), some (.int x1), some (.int x2)] [] (mk vi vl) post) : wp X (d + 1) k_S_ofLaw 0 0 66 [some (.ref 0), some (.int x1), some (.int x2)] [.int y0] (mk vi vl) post :=
  wr_if_eq (off := 7) (t := 73) (by decide +kernel) (by decide) k1 k2
theorem b_S_ofLaw_69 {X : aX} {d : Nat} {post : aO} {vi : Nat → Nat → Int32} {vl : Nat → Nat → Int64} {x1 x2 : Int32} (k1 : wp X (d + 1) k_S_ofLaw 0 0 74 [some (.ref 0), some (.int x1), some (.int x2)] [.int (1 : Int32)] (mk vi vl) post) : wp X (d + 1) k_S_ofLaw 0 0 69 [some (.ref 0), some (.int x1), some (.int x2)] [] (mk vi vl) post :=
  wr_iconst (n := 1) (v := (1 : Int32)) (by decide +kernel) (by decide) <|
  wr_goto (off := 4) (t := 74) (by decide +kernel) (by decide) k1
theorem b_S_ofLaw_73 {X : aX} {d : Nat} {post : aO} {vi : Nat → Nat → Int32} {vl : Nat → Nat → Int64} {x1 x2 : Int32} (k1 : wp X (d + 1) k_S_ofLaw 0 0 74 [some (.ref 0), some (.int x1), some (.int x2)] [.int (0 : Int32)] (mk vi vl) post) : wp X (d + 1) k_S_ofLaw 0 0 73 [some (.ref 0), some (.int x1), some (.int x2)] [] (mk vi vl) post :=
  wr_iconst (n := 0) (v := (0 : Int32)) (by decide +kernel) (by decide) <|
  k1
theorem b_S_ofLaw_74 {X : aX} {d : Nat} {post : aO} {vi : Nat → Nat → Int32} {vl : Nat → Nat → Int64} {x1 x2 y0 : Int32} (k1 : post (some (.int y0)) (mk vi vl)) : wp X (d + 1) k_S_ofLaw 0 0 74 [some (.ref 0), some (.int x1), some (.int x2)] [.int y0] (mk vi vl) post :=
  wr_ret (r := some (.int y0)) (Or.inr (Or.inl ⟨_, rfl, (by decide +kernel), (Or.inl rfl)⟩)) k1
theorem b_S_mark_0 {X : aX} {d : Nat} {post : aO} {vi : Nat → Nat → Int32} {vl : Nat → Nat → Int64} {x1 x2 : Int32} (k1 : CallOk X d 0 0 k_S_isLaw [.ref 0, .int x1] (mk vi vl) (fun r N' => wp X (d + 1) k_S_mark 0 0 5 [some (.ref 0), some (.int x1), some (.int x2), none, none] (pR r []) N' post)) : wp X (d + 1) k_S_mark 0 0 0 [some (.ref 0), some (.int x1), some (.int x2), none, none] [] (mk vi vl) post :=
  wr_aload_n (q := 0) (by decide +kernel) rfl rfl <|
  wr_iload_n (q := 1) (by decide +kernel) rfl rfl <|
  wr_invV (a := 0) (ci := 3) (mid2 := 48) (idx := 128) (b1 := 0) (b2 := 0) (c1 := 0) (c2 := 0) (as := [.int x1]) (st := []) pl_48 rfl (Nat.le_of_ble_eq_true rfl) rfl rfl lq_0 sq_0 (by decide) rfl lm_S_128 im_48 is_48 (by decide +kernel) k1
theorem b_S_mark_5 {X : aX} {d : Nat} {post : aO} {vi : Nat → Nat → Int32} {vl : Nat → Nat → Int64} {x1 x2 y0 : Int32} {o3 o4 : Option Value} (k1 : y0 = 0 → wp X (d + 1) k_S_mark 0 0 18 [some (.ref 0), some (.int x1), some (.int x2), o3, o4] [] (mk vi vl) post) (k2 : ¬ y0 = 0 → wp X (d + 1) k_S_mark 0 0 8 [some (.ref 0), some (.int x1), some (.int x2), o3, o4] [] (mk vi vl) post) : wp X (d + 1) k_S_mark 0 0 5 [some (.ref 0), some (.int x1), some (.int x2), o3, o4] [.int y0] (mk vi vl) post :=
  wr_if_eq (off := 13) (t := 18) (by decide +kernel) (by decide) k1 k2
theorem b_S_mark_8 {X : aX} {d : Nat} {post : aO} {vi : Nat → Nat → Int32} {vl : Nat → Nat → Int64} {x1 x2 : Int32} {o3 o4 : Option Value} (k1 : x2 ≤ 0 → wp X (d + 1) k_S_mark 0 0 18 [some (.ref 0), some (.int x1), some (.int x2), o3, o4] [] (mk vi vl) post) (k2 : ¬ x2 ≤ 0 → wp X (d + 1) k_S_mark 0 0 12 [some (.ref 0), some (.int x1), some (.int x2), o3, o4] [] (mk vi vl) post) : wp X (d + 1) k_S_mark 0 0 8 [some (.ref 0), some (.int x1), some (.int x2), o3, o4] [] (mk vi vl) post :=
  wr_iload_n (q := 2) (by decide +kernel) rfl rfl <|
  wr_if_le (off := 9) (t := 18) (by decide +kernel) (by decide) k1 k2
theorem b_S_mark_12 {X : aX} {d : Nat} {post : aO} {vi : Nat → Nat → Int32} {vl : Nat → Nat → Int64} {x1 x2 : Int32} {o3 o4 : Option Value} (k1 : x2 < (6 : Int32) → wp X (d + 1) k_S_mark 0 0 20 [some (.ref 0), some (.int x1), some (.int x2), o3, o4] [] (mk vi vl) post) (k2 : ¬ x2 < (6 : Int32) → wp X (d + 1) k_S_mark 0 0 18 [some (.ref 0), some (.int x1), some (.int x2), o3, o4] [] (mk vi vl) post) : wp X (d + 1) k_S_mark 0 0 12 [some (.ref 0), some (.int x1), some (.int x2), o3, o4] [] (mk vi vl) post :=
  wr_iload_n (q := 2) (by decide +kernel) rfl rfl <|
  wr_bipush (n := 6) (v := (6 : Int32)) (by decide +kernel) (by decide) <|
  wr_icmp_lt (off := 5) (t := 20) (by decide +kernel) (by decide) k1 k2
theorem b_S_mark_18 {X : aX} {d : Nat} {post : aO} {vi : Nat → Nat → Int32} {vl : Nat → Nat → Int64} {x1 x2 : Int32} {o3 o4 : Option Value} (k1 : post (some (.int (-1 : Int32))) (mk vi vl)) : wp X (d + 1) k_S_mark 0 0 18 [some (.ref 0), some (.int x1), some (.int x2), o3, o4] [] (mk vi vl) post :=
  wr_iconst (n := -1) (v := (-1 : Int32)) (by decide +kernel) (by decide) <|
  wr_ret (r := some (.int (-1 : Int32))) (Or.inr (Or.inl ⟨_, rfl, (by decide +kernel), (Or.inl rfl)⟩)) k1
theorem b_S_mark_20 {X : aX} {d : Nat} {post : aO} {vi : Nat → Nat → Int32} {vl : Nat → Nat → Int64} {x1 x2 : Int32} {o3 o4 : Option Value} (k1 : CallOk X d 0 0 k_C_isOfKind [.ref 3, .int x1, .int x2] (mk vi vl) (fun r N' => wp X (d + 1) k_S_mark 0 0 29 [some (.ref 0), some (.int x1), some (.int x2), o3, o4] (pR r []) N' post)) : wp X (d + 1) k_S_mark 0 0 20 [some (.ref 0), some (.int x1), some (.int x2), o3, o4] [] (mk vi vl) post :=
  wr_aload_n (q := 0) (by decide +kernel) rfl rfl <|
  wr_getR2 (b := 3) (ci := 3) (k0 := 2) (idx := 21) lq_0 sq_0 (by decide) (by decide) lf_S_21 rfl vq_0_2 lq_3 (by decide +kernel) <|
  wr_iload_n (q := 1) (by decide +kernel) rfl rfl <|
  wr_iload_n (q := 2) (by decide +kernel) rfl rfl <|
  wr_invV (a := 3) (ci := 0) (mid2 := 52) (idx := 134) (b1 := 0) (b2 := 0) (c1 := 0) (c2 := 0) (as := [.int x1, .int x2]) (st := []) pl_52 rfl (Nat.le_of_ble_eq_true rfl) rfl rfl lq_3 sq_3 (by decide) rfl lm_S_134 im_52 is_52 (by decide +kernel) k1
theorem b_S_mark_29 {X : aX} {d : Nat} {post : aO} {vi : Nat → Nat → Int32} {vl : Nat → Nat → Int64} {x1 x2 y0 : Int32} {o3 o4 : Option Value} (k1 : ¬ y0 = 0 → wp X (d + 1) k_S_mark 0 0 38 [some (.ref 0), some (.int x1), some (.int x2), o3, o4] [] (mk vi vl) post) (k2 : y0 = 0 → wp X (d + 1) k_S_mark 0 0 32 [some (.ref 0), some (.int x1), some (.int x2), o3, o4] [] (mk vi vl) post) : wp X (d + 1) k_S_mark 0 0 29 [some (.ref 0), some (.int x1), some (.int x2), o3, o4] [.int y0] (mk vi vl) post :=
  wr_if_ne (off := 9) (t := 38) (by decide +kernel) (by decide) k1 k2
theorem b_S_mark_32 {X : aX} {d : Nat} {post : aO} {vi : Nat → Nat → Int32} {vl : Nat → Nat → Int64} {x1 x2 : Int32} {o3 o4 : Option Value} (k1 : CallOk X d 0 0 k_S_refuse [.ref 0, .int (3 : Int32)] (mk vi vl) (fun r N' => wp X (d + 1) k_S_mark 0 0 37 [some (.ref 0), some (.int x1), some (.int x2), o3, o4] (pR r []) N' post)) : wp X (d + 1) k_S_mark 0 0 32 [some (.ref 0), some (.int x1), some (.int x2), o3, o4] [] (mk vi vl) post :=
  wr_aload_n (q := 0) (by decide +kernel) rfl rfl <|
  wr_iconst (n := 3) (v := (3 : Int32)) (by decide +kernel) (by decide) <|
  wr_invV (a := 0) (ci := 3) (mid2 := 8) (idx := 64) (b1 := 0) (b2 := 0) (c1 := 0) (c2 := 0) (as := [.int (3 : Int32)]) (st := []) pl_8 rfl (Nat.le_of_ble_eq_true rfl) rfl rfl lq_0 sq_0 (by decide) rfl lm_S_64 im_8 is_8 (by decide +kernel) k1
theorem b_S_mark_37 {X : aX} {d : Nat} {post : aO} {vi : Nat → Nat → Int32} {vl : Nat → Nat → Int64} {x1 x2 y0 : Int32} {o3 o4 : Option Value} (k1 : post (some (.int y0)) (mk vi vl)) : wp X (d + 1) k_S_mark 0 0 37 [some (.ref 0), some (.int x1), some (.int x2), o3, o4] [.int y0] (mk vi vl) post :=
  wr_ret (r := some (.int y0)) (Or.inr (Or.inl ⟨_, rfl, (by decide +kernel), (Or.inl rfl)⟩)) k1
theorem b_S_mark_38 {X : aX} {d : Nat} {post : aO} {vi : Nat → Nat → Int32} {vl : Nat → Nat → Int64} {x1 x2 : Int32} {o3 o4 : Option Value} (q1 : vp_in x1 8) (k1 : CallOk X d 0 0 k_C_yearsWith [.ref 3, .int (vi 7 x1.toNatClampNeg)] (mk vi vl) (fun r N' => wp X (d + 1) k_S_mark 0 0 54 [some (.ref 0), some (.int x1), some (.int x2), o3, o4] (pR r []) N' post)) : wp X (d + 1) k_S_mark 0 0 38 [some (.ref 0), some (.int x1), some (.int x2), o3, o4] [] (mk vi vl) post :=
  wr_aload_n (q := 0) (by decide +kernel) rfl rfl <|
  wr_getR2 (b := 3) (ci := 3) (k0 := 2) (idx := 21) lq_0 sq_0 (by decide) (by decide) lf_S_21 rfl vq_0_2 lq_3 (by decide +kernel) <|
  wr_aload_n (q := 0) (by decide +kernel) rfl rfl <|
  wr_getR2 (b := 3) (ci := 3) (k0 := 2) (idx := 21) lq_0 sq_0 (by decide) (by decide) lf_S_21 rfl vq_0_2 lq_3 (by decide +kernel) <|
  wr_getR2 (b := 7) (ci := 0) (k0 := 5) (idx := 137) lq_3 sq_3 (by decide) (by decide) lf_S_137 rfl vq_3_5 lq_7 (by decide +kernel) <|
  wr_iload_n (q := 1) (by decide +kernel) rfl rfl <|
  wr_iald lq_7 sq_7 q1 (by decide +kernel) <|
  wr_invV (a := 3) (ci := 0) (mid2 := 54) (idx := 140) (b1 := 0) (b2 := 0) (c1 := 0) (c2 := 0) (as := [.int (vi 7 x1.toNatClampNeg)]) (st := []) pl_54 rfl (Nat.le_of_ble_eq_true rfl) rfl rfl lq_3 sq_3 (by decide) rfl lm_S_140 im_54 is_54 (by decide +kernel) k1
theorem b_S_mark_54 {X : aX} {d : Nat} {post : aO} {vi : Nat → Nat → Int32} {vl : Nat → Nat → Int64} {x1 x2 y0 : Int32} {o3 o4 : Option Value} (q1 : vp_in x1 8) (k1 : CallOk X d 0 0 k_C_yearsWith [.ref 3, .int (vi 8 x1.toNatClampNeg)] (mk vi vl) (fun r N' => wp X (d + 1) k_S_mark 0 0 71 [some (.ref 0), some (.int x1), some (.int x2), some (.int y0), o4] (pR r []) N' post)) : wp X (d + 1) k_S_mark 0 0 54 [some (.ref 0), some (.int x1), some (.int x2), o3, o4] [.int y0] (mk vi vl) post :=
  wr_istore_n (q := 3) (by decide +kernel) rfl (by decide) <|
  wr_aload_n (q := 0) (by decide +kernel) rfl rfl <|
  wr_getR2 (b := 3) (ci := 3) (k0 := 2) (idx := 21) lq_0 sq_0 (by decide) (by decide) lf_S_21 rfl vq_0_2 lq_3 (by decide +kernel) <|
  wr_aload_n (q := 0) (by decide +kernel) rfl rfl <|
  wr_getR2 (b := 3) (ci := 3) (k0 := 2) (idx := 21) lq_0 sq_0 (by decide) (by decide) lf_S_21 rfl vq_0_2 lq_3 (by decide +kernel) <|
  wr_getR2 (b := 8) (ci := 0) (k0 := 6) (idx := 143) lq_3 sq_3 (by decide) (by decide) lf_S_143 rfl vq_3_6 lq_8 (by decide +kernel) <|
  wr_iload_n (q := 1) (by decide +kernel) rfl rfl <|
  wr_iald lq_8 sq_8 q1 (by decide +kernel) <|
  wr_invV (a := 3) (ci := 0) (mid2 := 54) (idx := 140) (b1 := 0) (b2 := 0) (c1 := 0) (c2 := 0) (as := [.int (vi 8 x1.toNatClampNeg)]) (st := []) pl_54 rfl (Nat.le_of_ble_eq_true rfl) rfl rfl lq_3 sq_3 (by decide) rfl lm_S_140 im_54 is_54 (by decide +kernel) k1
theorem b_S_mark_71 {X : aX} {d : Nat} {post : aO} {vi : Nat → Nat → Int32} {vl : Nat → Nat → Int64} {x1 x2 x3 y0 : Int32} {o4 : Option Value} (k1 : swk (fun t => wp X (d + 1) k_S_mark 0 0 t [some (.ref 0), some (.int x1), some (.int x2), some (.int x3), some (.int y0)] [] (mk vi vl) post) 160 x2 [((1 : Int32), 104), ((2 : Int32), 112), ((3 : Int32), 127), ((4 : Int32), 132)]) : wp X (d + 1) k_S_mark 0 0 71 [some (.ref 0), some (.int x1), some (.int x2), some (.int x3), o4] [.int y0] (mk vi vl) post :=
  wr_istore (i := 4) (by decide +kernel) (by decide) <|
  wr_iload_n (q := 2) (by decide +kernel) rfl rfl <|
  wr_tsw (dflt := 86) (lo := 1) (hi := 4) (offs := #[30, 38, 53, 58]) (len := 30) (dt := 160) (ts := [((1 : Int32), 104), ((2 : Int32), 112), ((3 : Int32), 127), ((4 : Int32), 132)]) (by decide +kernel) (by decide +kernel) (by decide) (by decide) k1
theorem b_S_mark_104 {X : aX} {d : Nat} {post : aO} {vi : Nat → Nat → Int32} {vl : Nat → Nat → Int64} {x1 x2 x3 x4 : Int32} (k1 : CallOk X d 0 0 k_J_bitCount [.int (x3 ||| x4)] (mk vi vl) (fun r N' => wp X (d + 1) k_S_mark 0 0 111 [some (.ref 0), some (.int x1), some (.int x2), some (.int x3), some (.int x4)] (pR r []) N' post)) : wp X (d + 1) k_S_mark 0 0 104 [some (.ref 0), some (.int x1), some (.int x2), some (.int x3), some (.int x4)] [] (mk vi vl) post :=
  wr_iload_n (q := 3) (by decide +kernel) rfl rfl <|
  wr_iload (i := 4) (by decide +kernel) rfl <|
  wr_ior (by decide +kernel) <|
  wr_invS (mid2 := 55) (idx := 146) (b1 := 0) (b2 := 0) (c1 := 0) (c2 := 0) (as := [.int (x3 ||| x4)]) (st := []) pl_55 rfl (Nat.le_of_ble_eq_true rfl) rfl rfl lm_S_146 it_55 (by decide +kernel) k1
theorem b_S_mark_111 {X : aX} {d : Nat} {post : aO} {vi : Nat → Nat → Int32} {vl : Nat → Nat → Int64} {x1 x2 x3 x4 y0 : Int32} (k1 : post (some (.int y0)) (mk vi vl)) : wp X (d + 1) k_S_mark 0 0 111 [some (.ref 0), some (.int x1), some (.int x2), some (.int x3), some (.int x4)] [.int y0] (mk vi vl) post :=
  wr_ret (r := some (.int y0)) (Or.inr (Or.inl ⟨_, rfl, (by decide +kernel), (Or.inl rfl)⟩)) k1
theorem b_S_mark_112 {X : aX} {d : Nat} {post : aO} {vi : Nat → Nat → Int32} {vl : Nat → Nat → Int64} {x1 x2 x3 x4 : Int32} (k1 : CallOk X d 0 0 k_C_yearsThatAre [.ref 3, .int (2 : Int32)] (mk vi vl) (fun r N' => wp X (d + 1) k_S_mark 0 0 122 [some (.ref 0), some (.int x1), some (.int x2), some (.int x3), some (.int x4)] (pR r [.int x4]) N' post)) : wp X (d + 1) k_S_mark 0 0 112 [some (.ref 0), some (.int x1), some (.int x2), some (.int x3), some (.int x4)] [] (mk vi vl) post :=
  wr_iload (i := 4) (by decide +kernel) rfl <|
  wr_aload_n (q := 0) (by decide +kernel) rfl rfl <|
  wr_getR2 (b := 3) (ci := 3) (k0 := 2) (idx := 21) lq_0 sq_0 (by decide) (by decide) lf_S_21 rfl vq_0_2 lq_3 (by decide +kernel) <|
  wr_iconst (n := 2) (v := (2 : Int32)) (by decide +kernel) (by decide) <|
  wr_invV (a := 3) (ci := 0) (mid2 := 56) (idx := 151) (b1 := 0) (b2 := 0) (c1 := 0) (c2 := 0) (as := [.int (2 : Int32)]) (st := [.int x4]) pl_56 rfl (Nat.le_of_ble_eq_true rfl) rfl rfl lq_3 sq_3 (by decide) rfl lm_S_151 im_56 is_56 (by decide +kernel) k1
theorem b_S_mark_122 {X : aX} {d : Nat} {post : aO} {vi : Nat → Nat → Int32} {vl : Nat → Nat → Int64} {x1 x2 x3 x4 y0 y1 : Int32} (k1 : CallOk X d 0 0 k_J_bitCount [.int (y0 &&& y1)] (mk vi vl) (fun r N' => wp X (d + 1) k_S_mark 0 0 126 [some (.ref 0), some (.int x1), some (.int x2), some (.int x3), some (.int x4)] (pR r []) N' post)) : wp X (d + 1) k_S_mark 0 0 122 [some (.ref 0), some (.int x1), some (.int x2), some (.int x3), some (.int x4)] [.int y1, .int y0] (mk vi vl) post :=
  wr_iand (by decide +kernel) <|
  wr_invS (mid2 := 55) (idx := 146) (b1 := 0) (b2 := 0) (c1 := 0) (c2 := 0) (as := [.int (y0 &&& y1)]) (st := []) pl_55 rfl (Nat.le_of_ble_eq_true rfl) rfl rfl lm_S_146 it_55 (by decide +kernel) k1
theorem b_S_mark_126 {X : aX} {d : Nat} {post : aO} {vi : Nat → Nat → Int32} {vl : Nat → Nat → Int64} {x1 x2 x3 x4 y0 : Int32} (k1 : post (some (.int y0)) (mk vi vl)) : wp X (d + 1) k_S_mark 0 0 126 [some (.ref 0), some (.int x1), some (.int x2), some (.int x3), some (.int x4)] [.int y0] (mk vi vl) post :=
  wr_ret (r := some (.int y0)) (Or.inr (Or.inl ⟨_, rfl, (by decide +kernel), (Or.inl rfl)⟩)) k1
theorem b_S_mark_127 {X : aX} {d : Nat} {post : aO} {vi : Nat → Nat → Int32} {vl : Nat → Nat → Int64} {x1 x2 x3 x4 : Int32} (k1 : CallOk X d 0 0 k_J_bitCount [.int x3] (mk vi vl) (fun r N' => wp X (d + 1) k_S_mark 0 0 131 [some (.ref 0), some (.int x1), some (.int x2), some (.int x3), some (.int x4)] (pR r []) N' post)) : wp X (d + 1) k_S_mark 0 0 127 [some (.ref 0), some (.int x1), some (.int x2), some (.int x3), some (.int x4)] [] (mk vi vl) post :=
  wr_iload_n (q := 3) (by decide +kernel) rfl rfl <|
  wr_invS (mid2 := 55) (idx := 146) (b1 := 0) (b2 := 0) (c1 := 0) (c2 := 0) (as := [.int x3]) (st := []) pl_55 rfl (Nat.le_of_ble_eq_true rfl) rfl rfl lm_S_146 it_55 (by decide +kernel) k1
theorem b_S_mark_131 {X : aX} {d : Nat} {post : aO} {vi : Nat → Nat → Int32} {vl : Nat → Nat → Int64} {x1 x2 x3 x4 y0 : Int32} (k1 : post (some (.int y0)) (mk vi vl)) : wp X (d + 1) k_S_mark 0 0 131 [some (.ref 0), some (.int x1), some (.int x2), some (.int x3), some (.int x4)] [.int y0] (mk vi vl) post :=
  wr_ret (r := some (.int y0)) (Or.inr (Or.inl ⟨_, rfl, (by decide +kernel), (Or.inl rfl)⟩)) k1
theorem b_S_mark_132 {X : aX} {d : Nat} {post : aO} {vi : Nat → Nat → Int32} {vl : Nat → Nat → Int64} {x1 x2 x3 x4 : Int32} (k1 : x3 = 0 → wp X (d + 1) k_S_mark 0 0 140 [some (.ref 0), some (.int x1), some (.int x2), some (.int x3), some (.int x4)] [] (mk vi vl) post) (k2 : ¬ x3 = 0 → wp X (d + 1) k_S_mark 0 0 136 [some (.ref 0), some (.int x1), some (.int x2), some (.int x3), some (.int x4)] [] (mk vi vl) post) : wp X (d + 1) k_S_mark 0 0 132 [some (.ref 0), some (.int x1), some (.int x2), some (.int x3), some (.int x4)] [] (mk vi vl) post :=
  wr_iload_n (q := 3) (by decide +kernel) rfl rfl <|
  wr_if_eq (off := 7) (t := 140) (by decide +kernel) (by decide) k1 k2
theorem b_S_mark_136 {X : aX} {d : Nat} {post : aO} {vi : Nat → Nat → Int32} {vl : Nat → Nat → Int64} {x1 x2 x3 x4 : Int32} (k1 : wp X (d + 1) k_S_mark 0 0 141 [some (.ref 0), some (.int x1), some (.int x2), some (.int x3), some (.int x4)] [.int (1 : Int32)] (mk vi vl) post) : wp X (d + 1) k_S_mark 0 0 136 [some (.ref 0), some (.int x1), some (.int x2), some (.int x3), some (.int x4)] [] (mk vi vl) post :=
  wr_iconst (n := 1) (v := (1 : Int32)) (by decide +kernel) (by decide) <|
  wr_goto (off := 4) (t := 141) (by decide +kernel) (by decide) k1
theorem b_S_mark_140 {X : aX} {d : Nat} {post : aO} {vi : Nat → Nat → Int32} {vl : Nat → Nat → Int64} {x1 x2 x3 x4 : Int32} (k1 : wp X (d + 1) k_S_mark 0 0 141 [some (.ref 0), some (.int x1), some (.int x2), some (.int x3), some (.int x4)] [.int (0 : Int32)] (mk vi vl) post) : wp X (d + 1) k_S_mark 0 0 140 [some (.ref 0), some (.int x1), some (.int x2), some (.int x3), some (.int x4)] [] (mk vi vl) post :=
  wr_iconst (n := 0) (v := (0 : Int32)) (by decide +kernel) (by decide) <|
  k1
theorem b_S_mark_141 {X : aX} {d : Nat} {post : aO} {vi : Nat → Nat → Int32} {vl : Nat → Nat → Int64} {x1 x2 x3 x4 y0 : Int32} (k1 : x4 = 0 → wp X (d + 1) k_S_mark 0 0 150 [some (.ref 0), some (.int x1), some (.int x2), some (.int x3), some (.int x4)] [.int y0] (mk vi vl) post) (k2 : ¬ x4 = 0 → wp X (d + 1) k_S_mark 0 0 146 [some (.ref 0), some (.int x1), some (.int x2), some (.int x3), some (.int x4)] [.int y0] (mk vi vl) post) : wp X (d + 1) k_S_mark 0 0 141 [some (.ref 0), some (.int x1), some (.int x2), some (.int x3), some (.int x4)] [.int y0] (mk vi vl) post :=
  wr_iload (i := 4) (by decide +kernel) rfl <|
  wr_if_eq (off := 7) (t := 150) (by decide +kernel) (by decide) k1 k2
theorem b_S_mark_146 {X : aX} {d : Nat} {post : aO} {vi : Nat → Nat → Int32} {vl : Nat → Nat → Int64} {x1 x2 x3 x4 y0 : Int32} (k1 : wp X (d + 1) k_S_mark 0 0 151 [some (.ref 0), some (.int x1), some (.int x2), some (.int x3), some (.int x4)] [.int (1 : Int32), .int y0] (mk vi vl) post) : wp X (d + 1) k_S_mark 0 0 146 [some (.ref 0), some (.int x1), some (.int x2), some (.int x3), some (.int x4)] [.int y0] (mk vi vl) post :=
  wr_iconst (n := 1) (v := (1 : Int32)) (by decide +kernel) (by decide) <|
  wr_goto (off := 4) (t := 151) (by decide +kernel) (by decide) k1
theorem b_S_mark_150 {X : aX} {d : Nat} {post : aO} {vi : Nat → Nat → Int32} {vl : Nat → Nat → Int64} {x1 x2 x3 x4 y0 : Int32} (k1 : wp X (d + 1) k_S_mark 0 0 151 [some (.ref 0), some (.int x1), some (.int x2), some (.int x3), some (.int x4)] [.int (0 : Int32), .int y0] (mk vi vl) post) : wp X (d + 1) k_S_mark 0 0 150 [some (.ref 0), some (.int x1), some (.int x2), some (.int x3), some (.int x4)] [.int y0] (mk vi vl) post :=
  wr_iconst (n := 0) (v := (0 : Int32)) (by decide +kernel) (by decide) <|
  k1
theorem b_S_mark_151 {X : aX} {d : Nat} {post : aO} {vi : Nat → Nat → Int32} {vl : Nat → Nat → Int64} {x1 x2 x3 x4 y0 y1 : Int32} (k1 : y0 = y1 → wp X (d + 1) k_S_mark 0 0 158 [some (.ref 0), some (.int x1), some (.int x2), some (.int x3), some (.int x4)] [] (mk vi vl) post) (k2 : ¬ y0 = y1 → wp X (d + 1) k_S_mark 0 0 154 [some (.ref 0), some (.int x1), some (.int x2), some (.int x3), some (.int x4)] [] (mk vi vl) post) : wp X (d + 1) k_S_mark 0 0 151 [some (.ref 0), some (.int x1), some (.int x2), some (.int x3), some (.int x4)] [.int y1, .int y0] (mk vi vl) post :=
  wr_icmp_eq (off := 7) (t := 158) (by decide +kernel) (by decide) k1 k2
theorem b_S_mark_154 {X : aX} {d : Nat} {post : aO} {vi : Nat → Nat → Int32} {vl : Nat → Nat → Int64} {x1 x2 x3 x4 : Int32} (k1 : wp X (d + 1) k_S_mark 0 0 159 [some (.ref 0), some (.int x1), some (.int x2), some (.int x3), some (.int x4)] [.int (1 : Int32)] (mk vi vl) post) : wp X (d + 1) k_S_mark 0 0 154 [some (.ref 0), some (.int x1), some (.int x2), some (.int x3), some (.int x4)] [] (mk vi vl) post :=
  wr_iconst (n := 1) (v := (1 : Int32)) (by decide +kernel) (by decide) <|
  wr_goto (off := 4) (t := 159) (by decide +kernel) (by decide) k1
theorem b_S_mark_158 {X : aX} {d : Nat} {post : aO} {vi : Nat → Nat → Int32} {vl : Nat → Nat → Int64} {x1 x2 x3 x4 : Int32} (k1 : wp X (d + 1) k_S_mark 0 0 159 [some (.ref 0), some (.int x1), some (.int x2), some (.int x3), some (.int x4)] [.int (0 : Int32)] (mk vi vl) post) : wp X (d + 1) k_S_mark 0 0 158 [some (.ref 0), some (.int x1), some (.int x2), some (.int x3), some (.int x4)] [] (mk vi vl) post :=
  wr_iconst (n := 0) (v := (0 : Int32)) (by decide +kernel) (by decide) <|
  k1
theorem b_S_mark_159 {X : aX} {d : Nat} {post : aO} {vi : Nat → Nat → Int32} {vl : Nat → Nat → Int64} {x1 x2 x3 x4 y0 : Int32} (k1 : post (some (.int y0)) (mk vi vl)) : wp X (d + 1) k_S_mark 0 0 159 [some (.ref 0), some (.int x1), some (.int x2), some (.int x3), some (.int x4)] [.int y0] (mk vi vl) post :=
  wr_ret (r := some (.int y0)) (Or.inr (Or.inl ⟨_, rfl, (by decide +kernel), (Or.inl rfl)⟩)) k1
theorem b_S_mark_160 {X : aX} {d : Nat} {post : aO} {vi : Nat → Nat → Int32} {vl : Nat → Nat → Int64} {x1 x2 x3 x4 : Int32} (k1 : CallOk X d 0 0 k_C_yearsThatAre [.ref 3, .int (0 : Int32)] (mk vi vl) (fun r N' => wp X (d + 1) k_S_mark 0 0 170 [some (.ref 0), some (.int x1), some (.int x2), some (.int x3), some (.int x4)] (pR r [.int x4]) N' post)) : wp X (d + 1) k_S_mark 0 0 160 [some (.ref 0), some (.int x1), some (.int x2), some (.int x3), some (.int x4)] [] (mk vi vl) post :=
  wr_iload (i := 4) (by decide +kernel) rfl <|
  wr_aload_n (q := 0) (by decide +kernel) rfl rfl <|
  wr_getR2 (b := 3) (ci := 3) (k0 := 2) (idx := 21) lq_0 sq_0 (by decide) (by decide) lf_S_21 rfl vq_0_2 lq_3 (by decide +kernel) <|
  wr_iconst (n := 0) (v := (0 : Int32)) (by decide +kernel) (by decide) <|
  wr_invV (a := 3) (ci := 0) (mid2 := 56) (idx := 151) (b1 := 0) (b2 := 0) (c1 := 0) (c2 := 0) (as := [.int (0 : Int32)]) (st := [.int x4]) pl_56 rfl (Nat.le_of_ble_eq_true rfl) rfl rfl lq_3 sq_3 (by decide) rfl lm_S_151 im_56 is_56 (by decide +kernel) k1
theorem b_S_mark_170 {X : aX} {d : Nat} {post : aO} {vi : Nat → Nat → Int32} {vl : Nat → Nat → Int64} {x1 x2 x3 x4 y0 y1 : Int32} (k1 : CallOk X d 0 0 k_J_bitCount [.int (y0 &&& y1)] (mk vi vl) (fun r N' => wp X (d + 1) k_S_mark 0 0 174 [some (.ref 0), some (.int x1), some (.int x2), some (.int x3), some (.int x4)] (pR r []) N' post)) : wp X (d + 1) k_S_mark 0 0 170 [some (.ref 0), some (.int x1), some (.int x2), some (.int x3), some (.int x4)] [.int y1, .int y0] (mk vi vl) post :=
  wr_iand (by decide +kernel) <|
  wr_invS (mid2 := 55) (idx := 146) (b1 := 0) (b2 := 0) (c1 := 0) (c2 := 0) (as := [.int (y0 &&& y1)]) (st := []) pl_55 rfl (Nat.le_of_ble_eq_true rfl) rfl rfl lm_S_146 it_55 (by decide +kernel) k1
theorem b_S_mark_174 {X : aX} {d : Nat} {post : aO} {vi : Nat → Nat → Int32} {vl : Nat → Nat → Int64} {x1 x2 x3 x4 y0 : Int32} (k1 : post (some (.int y0)) (mk vi vl)) : wp X (d + 1) k_S_mark 0 0 174 [some (.ref 0), some (.int x1), some (.int x2), some (.int x3), some (.int x4)] [.int y0] (mk vi vl) post :=
  wr_ret (r := some (.int y0)) (Or.inr (Or.inl ⟨_, rfl, (by decide +kernel), (Or.inl rfl)⟩)) k1
theorem b_S_end_0 {X : aX} {d : Nat} {post : aO} {vi : Nat → Nat → Int32} {vl : Nat → Nat → Int64} {x1 x2 : Int32} (k1 : CallOk X d 0 0 k_S_isLaw [.ref 0, .int x1] (mk vi vl) (fun r N' => wp X (d + 1) k_S_end 0 0 5 [some (.ref 0), some (.int x1), some (.int x2), none] (pR r []) N' post)) : wp X (d + 1) k_S_end 0 0 0 [some (.ref 0), some (.int x1), some (.int x2), none] [] (mk vi vl) post :=
  wr_aload_n (q := 0) (by decide +kernel) rfl rfl <|
  wr_iload_n (q := 1) (by decide +kernel) rfl rfl <|
  wr_invV (a := 0) (ci := 3) (mid2 := 48) (idx := 128) (b1 := 0) (b2 := 0) (c1 := 0) (c2 := 0) (as := [.int x1]) (st := []) pl_48 rfl (Nat.le_of_ble_eq_true rfl) rfl rfl lq_0 sq_0 (by decide) rfl lm_S_128 im_48 is_48 (by decide +kernel) k1
theorem b_S_end_5 {X : aX} {d : Nat} {post : aO} {vi : Nat → Nat → Int32} {vl : Nat → Nat → Int64} {x1 x2 y0 : Int32} {o3 : Option Value} (k1 : y0 = 0 → wp X (d + 1) k_S_end 0 0 15 [some (.ref 0), some (.int x1), some (.int x2), o3] [] (mk vi vl) post) (k2 : ¬ y0 = 0 → wp X (d + 1) k_S_end 0 0 8 [some (.ref 0), some (.int x1), some (.int x2), o3] [] (mk vi vl) post) : wp X (d + 1) k_S_end 0 0 5 [some (.ref 0), some (.int x1), some (.int x2), o3] [.int y0] (mk vi vl) post :=
  wr_if_eq (off := 10) (t := 15) (by decide +kernel) (by decide) k1 k2
theorem b_S_end_8 {X : aX} {d : Nat} {post : aO} {vi : Nat → Nat → Int32} {vl : Nat → Nat → Int64} {x1 x2 : Int32} {o3 : Option Value} (k1 : CallOk X d 0 0 k_S_isScene [.int x2] (mk vi vl) (fun r N' => wp X (d + 1) k_S_end 0 0 12 [some (.ref 0), some (.int x1), some (.int x2), o3] (pR r []) N' post)) : wp X (d + 1) k_S_end 0 0 8 [some (.ref 0), some (.int x1), some (.int x2), o3] [] (mk vi vl) post :=
  wr_iload_n (q := 2) (by decide +kernel) rfl rfl <|
  wr_invS (mid2 := 31) (idx := 154) (b1 := 0) (b2 := 0) (c1 := 0) (c2 := 0) (as := [.int x2]) (st := []) pl_31 rfl (Nat.le_of_ble_eq_true rfl) rfl rfl lm_S_154 it_31 (by decide +kernel) k1
theorem b_S_end_12 {X : aX} {d : Nat} {post : aO} {vi : Nat → Nat → Int32} {vl : Nat → Nat → Int64} {x1 x2 y0 : Int32} {o3 : Option Value} (k1 : ¬ y0 = 0 → wp X (d + 1) k_S_end 0 0 17 [some (.ref 0), some (.int x1), some (.int x2), o3] [] (mk vi vl) post) (k2 : y0 = 0 → wp X (d + 1) k_S_end 0 0 15 [some (.ref 0), some (.int x1), some (.int x2), o3] [] (mk vi vl) post) : wp X (d + 1) k_S_end 0 0 12 [some (.ref 0), some (.int x1), some (.int x2), o3] [.int y0] (mk vi vl) post :=
  wr_if_ne (off := 5) (t := 17) (by decide +kernel) (by decide) k1 k2
theorem b_S_end_15 {X : aX} {d : Nat} {post : aO} {vi : Nat → Nat → Int32} {vl : Nat → Nat → Int64} {x1 x2 : Int32} {o3 : Option Value} (k1 : post (some (.int (-1 : Int32))) (mk vi vl)) : wp X (d + 1) k_S_end 0 0 15 [some (.ref 0), some (.int x1), some (.int x2), o3] [] (mk vi vl) post :=
  wr_iconst (n := -1) (v := (-1 : Int32)) (by decide +kernel) (by decide) <|
  wr_ret (r := some (.int (-1 : Int32))) (Or.inr (Or.inl ⟨_, rfl, (by decide +kernel), (Or.inl rfl)⟩)) k1
theorem b_S_end_17 {X : aX} {d : Nat} {post : aO} {vi : Nat → Nat → Int32} {vl : Nat → Nat → Int64} {x1 x2 : Int32} {o3 : Option Value} (k1 : (vi 3 7) ≤ 0 → wp X (d + 1) k_S_end 0 0 30 [some (.ref 0), some (.int x1), some (.int x2), o3] [] (mk vi vl) post) (k2 : ¬ (vi 3 7) ≤ 0 → wp X (d + 1) k_S_end 0 0 27 [some (.ref 0), some (.int x1), some (.int x2), o3] [] (mk vi vl) post) : wp X (d + 1) k_S_end 0 0 17 [some (.ref 0), some (.int x1), some (.int x2), o3] [] (mk vi vl) post :=
  wr_aload_n (q := 0) (by decide +kernel) rfl rfl <|
  wr_getR2 (b := 3) (ci := 3) (k0 := 2) (idx := 21) lq_0 sq_0 (by decide) (by decide) lf_S_21 rfl vq_0_2 lq_3 (by decide +kernel) <|
  wr_getI (ci := 0) (k0 := 7) (idx := 157) lq_3 sq_3 (by decide) (by decide) lf_S_157 (Or.inl rfl) (by decide +kernel) <|
  wr_if_le (off := 6) (t := 30) (by decide +kernel) (by decide) k1 k2
theorem b_S_end_27 {X : aX} {d : Nat} {post : aO} {vi : Nat → Nat → Int32} {vl : Nat → Nat → Int64} {x1 x2 : Int32} {o3 : Option Value} (k1 : post (some (.int (-4 : Int32))) (mk vi vl)) : wp X (d + 1) k_S_end 0 0 27 [some (.ref 0), some (.int x1), some (.int x2), o3] [] (mk vi vl) post :=
  wr_bipush (n := -4) (v := (-4 : Int32)) (by decide +kernel) (by decide) <|
  wr_ret (r := some (.int (-4 : Int32))) (Or.inr (Or.inl ⟨_, rfl, (by decide +kernel), (Or.inl rfl)⟩)) k1
theorem b_S_end_30 {X : aX} {d : Nat} {post : aO} {vi : Nat → Nat → Int32} {vl : Nat → Nat → Int64} {x1 x2 : Int32} {o3 : Option Value} (q1 : vp_in x1 8) (q2 : vp_in x1 8) (k1 : ∀ w, w = up2 vi 8 x1.toNatClampNeg x2 → wp X (d + 1) k_S_end 0 0 50 [some (.ref 0), some (.int x1), some (.int x2), some (.int (vi 8 x1.toNatClampNeg))] [] (mk w vl) post) : wp X (d + 1) k_S_end 0 0 30 [some (.ref 0), some (.int x1), some (.int x2), o3] [] (mk vi vl) post :=
  wr_aload_n (q := 0) (by decide +kernel) rfl rfl <|
  wr_getR2 (b := 3) (ci := 3) (k0 := 2) (idx := 21) lq_0 sq_0 (by decide) (by decide) lf_S_21 rfl vq_0_2 lq_3 (by decide +kernel) <|
  wr_getR2 (b := 8) (ci := 0) (k0 := 6) (idx := 143) lq_3 sq_3 (by decide) (by decide) lf_S_143 rfl vq_3_6 lq_8 (by decide +kernel) <|
  wr_iload_n (q := 1) (by decide +kernel) rfl rfl <|
  wr_iald lq_8 sq_8 q1 (by decide +kernel) <|
  wr_istore_n (q := 3) (by decide +kernel) rfl (by decide) <|
  wr_aload_n (q := 0) (by decide +kernel) rfl rfl <|
  wr_getR2 (b := 3) (ci := 3) (k0 := 2) (idx := 21) lq_0 sq_0 (by decide) (by decide) lf_S_21 rfl vq_0_2 lq_3 (by decide +kernel) <|
  wr_getR2 (b := 8) (ci := 0) (k0 := 6) (idx := 143) lq_3 sq_3 (by decide) (by decide) lf_S_143 rfl vq_3_6 lq_8 (by decide +kernel) <|
  wr_iload_n (q := 1) (by decide +kernel) rfl rfl <|
  wr_iload_n (q := 2) (by decide +kernel) rfl rfl <|
  wr_iast lq_8 sq_8 q2 (by decide +kernel) <|
  k1 _ rfl
theorem b_S_end_50 {X : aX} {d : Nat} {post : aO} {vi : Nat → Nat → Int32} {vl : Nat → Nat → Int64} {x1 x2 x3 : Int32} (k1 : CallOk X d 0 0 k_C_settleFrom [.ref 3, .int (0 : Int32)] (mk vi vl) (fun r N' => wp X (d + 1) k_S_end 0 0 58 [some (.ref 0), some (.int x1), some (.int x2), some (.int x3)] (pR r []) N' post)) : wp X (d + 1) k_S_end 0 0 50 [some (.ref 0), some (.int x1), some (.int x2), some (.int x3)] [] (mk vi vl) post :=
  wr_aload_n (q := 0) (by decide +kernel) rfl rfl <|
  wr_getR2 (b := 3) (ci := 3) (k0 := 2) (idx := 21) lq_0 sq_0 (by decide) (by decide) lf_S_21 rfl vq_0_2 lq_3 (by decide +kernel) <|
  wr_iconst (n := 0) (v := (0 : Int32)) (by decide +kernel) (by decide) <|
  wr_invV (a := 3) (ci := 0) (mid2 := 39) (idx := 112) (b1 := 0) (b2 := 0) (c1 := 0) (c2 := 0) (as := [.int (0 : Int32)]) (st := []) pl_39 rfl (Nat.le_of_ble_eq_true rfl) rfl rfl lq_3 sq_3 (by decide) rfl lm_S_112 im_39 is_39 (by decide +kernel) k1
theorem b_S_end_58 {X : aX} {d : Nat} {post : aO} {vi : Nat → Nat → Int32} {vl : Nat → Nat → Int64} {x1 x2 x3 : Int32} (k1 : post (some (.int x3)) (mk vi vl)) : wp X (d + 1) k_S_end 0 0 58 [some (.ref 0), some (.int x1), some (.int x2), some (.int x3)] [] (mk vi vl) post :=
  wr_iload_n (q := 3) (by decide +kernel) rfl rfl <|
  wr_ret (r := some (.int x3)) (Or.inr (Or.inl ⟨_, rfl, (by decide +kernel), (Or.inl rfl)⟩)) k1
theorem b_S_sew_0 {X : aX} {d : Nat} {post : aO} {vi : Nat → Nat → Int32} {vl : Nat → Nat → Int64} {x1 x2 : Int32} (k1 : CallOk X d 0 0 k_S_isYear [.ref 0, .int x1] (mk vi vl) (fun r N' => wp X (d + 1) k_S_sew 0 0 5 [some (.ref 0), some (.int x1), some (.int x2)] (pR r []) N' post)) : wp X (d + 1) k_S_sew 0 0 0 [some (.ref 0), some (.int x1), some (.int x2)] [] (mk vi vl) post :=
  wr_aload_n (q := 0) (by decide +kernel) rfl rfl <|
  wr_iload_n (q := 1) (by decide +kernel) rfl rfl <|
  wr_invV (a := 0) (ci := 3) (mid2 := 45) (idx := 121) (b1 := 0) (b2 := 0) (c1 := 0) (c2 := 0) (as := [.int x1]) (st := []) pl_45 rfl (Nat.le_of_ble_eq_true rfl) rfl rfl lq_0 sq_0 (by decide) rfl lm_S_121 im_45 is_45 (by decide +kernel) k1
theorem b_S_sew_5 {X : aX} {d : Nat} {post : aO} {vi : Nat → Nat → Int32} {vl : Nat → Nat → Int64} {x1 x2 y0 : Int32} (k1 : y0 = 0 → wp X (d + 1) k_S_sew 0 0 15 [some (.ref 0), some (.int x1), some (.int x2)] [] (mk vi vl) post) (k2 : ¬ y0 = 0 → wp X (d + 1) k_S_sew 0 0 8 [some (.ref 0), some (.int x1), some (.int x2)] [] (mk vi vl) post) : wp X (d + 1) k_S_sew 0 0 5 [some (.ref 0), some (.int x1), some (.int x2)] [.int y0] (mk vi vl) post :=
  wr_if_eq (off := 10) (t := 15) (by decide +kernel) (by decide) k1 k2
theorem b_S_sew_8 {X : aX} {d : Nat} {post : aO} {vi : Nat → Nat → Int32} {vl : Nat → Nat → Int64} {x1 x2 : Int32} (k1 : CallOk X d 0 0 k_S_isScene [.int x2] (mk vi vl) (fun r N' => wp X (d + 1) k_S_sew 0 0 12 [some (.ref 0), some (.int x1), some (.int x2)] (pR r []) N' post)) : wp X (d + 1) k_S_sew 0 0 8 [some (.ref 0), some (.int x1), some (.int x2)] [] (mk vi vl) post :=
  wr_iload_n (q := 2) (by decide +kernel) rfl rfl <|
  wr_invS (mid2 := 31) (idx := 154) (b1 := 0) (b2 := 0) (c1 := 0) (c2 := 0) (as := [.int x2]) (st := []) pl_31 rfl (Nat.le_of_ble_eq_true rfl) rfl rfl lm_S_154 it_31 (by decide +kernel) k1
theorem b_S_sew_12 {X : aX} {d : Nat} {post : aO} {vi : Nat → Nat → Int32} {vl : Nat → Nat → Int64} {x1 x2 y0 : Int32} (k1 : ¬ y0 = 0 → wp X (d + 1) k_S_sew 0 0 17 [some (.ref 0), some (.int x1), some (.int x2)] [] (mk vi vl) post) (k2 : y0 = 0 → wp X (d + 1) k_S_sew 0 0 15 [some (.ref 0), some (.int x1), some (.int x2)] [] (mk vi vl) post) : wp X (d + 1) k_S_sew 0 0 12 [some (.ref 0), some (.int x1), some (.int x2)] [.int y0] (mk vi vl) post :=
  wr_if_ne (off := 5) (t := 17) (by decide +kernel) (by decide) k1 k2
theorem b_S_sew_15 {X : aX} {d : Nat} {post : aO} {vi : Nat → Nat → Int32} {vl : Nat → Nat → Int64} {x1 x2 : Int32} (k1 : post (some (.int (-1 : Int32))) (mk vi vl)) : wp X (d + 1) k_S_sew 0 0 15 [some (.ref 0), some (.int x1), some (.int x2)] [] (mk vi vl) post :=
  wr_iconst (n := -1) (v := (-1 : Int32)) (by decide +kernel) (by decide) <|
  wr_ret (r := some (.int (-1 : Int32))) (Or.inr (Or.inl ⟨_, rfl, (by decide +kernel), (Or.inl rfl)⟩)) k1
theorem b_S_sew_17 {X : aX} {d : Nat} {post : aO} {vi : Nat → Nat → Int32} {vl : Nat → Nat → Int64} {x1 x2 : Int32} (k1 : CallOk X d 0 0 k_S_stitched [.ref 0, .int x1, .int x2] (mk vi vl) (fun r N' => wp X (d + 1) k_S_sew 0 0 23 [some (.ref 0), some (.int x1), some (.int x2)] (pR r []) N' post)) : wp X (d + 1) k_S_sew 0 0 17 [some (.ref 0), some (.int x1), some (.int x2)] [] (mk vi vl) post :=
  wr_aload_n (q := 0) (by decide +kernel) rfl rfl <|
  wr_iload_n (q := 1) (by decide +kernel) rfl rfl <|
  wr_iload_n (q := 2) (by decide +kernel) rfl rfl <|
  wr_invV (a := 0) (ci := 3) (mid2 := 59) (idx := 160) (b1 := 0) (b2 := 0) (c1 := 0) (c2 := 0) (as := [.int x1, .int x2]) (st := []) pl_59 rfl (Nat.le_of_ble_eq_true rfl) rfl rfl lq_0 sq_0 (by decide) rfl lm_S_160 im_59 is_59 (by decide +kernel) k1
theorem b_S_sew_23 {X : aX} {d : Nat} {post : aO} {vi : Nat → Nat → Int32} {vl : Nat → Nat → Int64} {x1 x2 y0 : Int32} (k1 : post (some (.int y0)) (mk vi vl)) : wp X (d + 1) k_S_sew 0 0 23 [some (.ref 0), some (.int x1), some (.int x2)] [.int y0] (mk vi vl) post :=
  wr_ret (r := some (.int y0)) (Or.inr (Or.inl ⟨_, rfl, (by decide +kernel), (Or.inl rfl)⟩)) k1
theorem b_S_stitched_0 {X : aX} {d : Nat} {post : aO} {vi : Nat → Nat → Int32} {vl : Nat → Nat → Int64} {x1 x2 : Int32} (k1 : CallOk X d 0 0 k_C_allows [.ref 3, .int x1, .int x2] (mk vi vl) (fun r N' => wp X (d + 1) k_S_stitched 0 0 9 [some (.ref 0), some (.int x1), some (.int x2)] (pR r []) N' post)) : wp X (d + 1) k_S_stitched 0 0 0 [some (.ref 0), some (.int x1), some (.int x2)] [] (mk vi vl) post :=
  wr_aload_n (q := 0) (by decide +kernel) rfl rfl <|
  wr_getR2 (b := 3) (ci := 3) (k0 := 2) (idx := 21) lq_0 sq_0 (by decide) (by decide) lf_S_21 rfl vq_0_2 lq_3 (by decide +kernel) <|
  wr_iload_n (q := 1) (by decide +kernel) rfl rfl <|
  wr_iload_n (q := 2) (by decide +kernel) rfl rfl <|
  wr_invV (a := 3) (ci := 0) (mid2 := 60) (idx := 206) (b1 := 0) (b2 := 0) (c1 := 0) (c2 := 0) (as := [.int x1, .int x2]) (st := []) pl_60 rfl (Nat.le_of_ble_eq_true rfl) rfl rfl lq_3 sq_3 (by decide) rfl lm_S_206 im_60 is_60 (by decide +kernel) k1
theorem b_S_stitched_9 {X : aX} {d : Nat} {post : aO} {vi : Nat → Nat → Int32} {vl : Nat → Nat → Int64} {x1 x2 y0 : Int32} (k1 : ¬ y0 = 0 → wp X (d + 1) k_S_stitched 0 0 15 [some (.ref 0), some (.int x1), some (.int x2)] [] (mk vi vl) post) (k2 : y0 = 0 → wp X (d + 1) k_S_stitched 0 0 12 [some (.ref 0), some (.int x1), some (.int x2)] [] (mk vi vl) post) : wp X (d + 1) k_S_stitched 0 0 9 [some (.ref 0), some (.int x1), some (.int x2)] [.int y0] (mk vi vl) post :=
  wr_if_ne (off := 6) (t := 15) (by decide +kernel) (by decide) k1 k2
theorem b_S_stitched_12 {X : aX} {d : Nat} {post : aO} {vi : Nat → Nat → Int32} {vl : Nat → Nat → Int64} {x1 x2 : Int32} (k1 : post (some (.int (-4 : Int32))) (mk vi vl)) : wp X (d + 1) k_S_stitched 0 0 12 [some (.ref 0), some (.int x1), some (.int x2)] [] (mk vi vl) post :=
  wr_bipush (n := -4) (v := (-4 : Int32)) (by decide +kernel) (by decide) <|
  wr_ret (r := some (.int (-4 : Int32))) (Or.inr (Or.inl ⟨_, rfl, (by decide +kernel), (Or.inl rfl)⟩)) k1
theorem b_S_stitched_15 {X : aX} {d : Nat} {post : aO} {vi : Nat → Nat → Int32} {vl : Nat → Nat → Int64} {x1 x2 : Int32} (k1 : (vi 3 7) < (40 : Int32) → wp X (d + 1) k_S_stitched 0 0 30 [some (.ref 0), some (.int x1), some (.int x2)] [] (mk vi vl) post) (k2 : ¬ (vi 3 7) < (40 : Int32) → wp X (d + 1) k_S_stitched 0 0 27 [some (.ref 0), some (.int x1), some (.int x2)] [] (mk vi vl) post) : wp X (d + 1) k_S_stitched 0 0 15 [some (.ref 0), some (.int x1), some (.int x2)] [] (mk vi vl) post :=
  wr_aload_n (q := 0) (by decide +kernel) rfl rfl <|
  wr_getR2 (b := 3) (ci := 3) (k0 := 2) (idx := 21) lq_0 sq_0 (by decide) (by decide) lf_S_21 rfl vq_0_2 lq_3 (by decide +kernel) <|
  wr_getI (ci := 0) (k0 := 7) (idx := 157) lq_3 sq_3 (by decide) (by decide) lf_S_157 (Or.inl rfl) (by decide +kernel) <|
  wr_bipush (n := 40) (v := (40 : Int32)) (by decide +kernel) (by decide) <|
  wr_icmp_lt (off := 6) (t := 30) (by decide +kernel) (by decide) k1 k2
theorem b_S_stitched_27 {X : aX} {d : Nat} {post : aO} {vi : Nat → Nat → Int32} {vl : Nat → Nat → Int64} {x1 x2 : Int32} (k1 : post (some (.int (-2 : Int32))) (mk vi vl)) : wp X (d + 1) k_S_stitched 0 0 27 [some (.ref 0), some (.int x1), some (.int x2)] [] (mk vi vl) post :=
  wr_bipush (n := -2) (v := (-2 : Int32)) (by decide +kernel) (by decide) <|
  wr_ret (r := some (.int (-2 : Int32))) (Or.inr (Or.inl ⟨_, rfl, (by decide +kernel), (Or.inl rfl)⟩)) k1
theorem b_S_stitched_30 {X : aX} {d : Nat} {post : aO} {vi : Nat → Nat → Int32} {vl : Nat → Nat → Int64} {x1 x2 : Int32} (k1 : CallOk X d 0 0 k_C_stitch [.ref 3, .int x1, .int x2] (mk vi vl) (fun r N' => wp X (d + 1) k_S_stitched 0 0 39 [some (.ref 0), some (.int x1), some (.int x2)] (pR r []) N' post)) : wp X (d + 1) k_S_stitched 0 0 30 [some (.ref 0), some (.int x1), some (.int x2)] [] (mk vi vl) post :=
  wr_aload_n (q := 0) (by decide +kernel) rfl rfl <|
  wr_getR2 (b := 3) (ci := 3) (k0 := 2) (idx := 21) lq_0 sq_0 (by decide) (by decide) lf_S_21 rfl vq_0_2 lq_3 (by decide +kernel) <|
  wr_iload_n (q := 1) (by decide +kernel) rfl rfl <|
  wr_iload_n (q := 2) (by decide +kernel) rfl rfl <|
  wr_invV (a := 3) (ci := 0) (mid2 := 61) (idx := 251) (b1 := 0) (b2 := 0) (c1 := 0) (c2 := 0) (as := [.int x1, .int x2]) (st := []) pl_61 rfl (Nat.le_of_ble_eq_true rfl) rfl rfl lq_3 sq_3 (by decide) rfl lm_S_251 im_61 is_61 (by decide +kernel) k1
theorem b_S_stitched_39 {X : aX} {d : Nat} {post : aO} {vi : Nat → Nat → Int32} {vl : Nat → Nat → Int64} {x1 x2 : Int32} (k1 : CallOk X d 0 0 k_C_brokenLaws [.ref 3] (mk vi vl) (fun r N' => wp X (d + 1) k_S_stitched 0 0 46 [some (.ref 0), some (.int x1), some (.int x2)] (pR r []) N' post)) : wp X (d + 1) k_S_stitched 0 0 39 [some (.ref 0), some (.int x1), some (.int x2)] [] (mk vi vl) post :=
  wr_aload_n (q := 0) (by decide +kernel) rfl rfl <|
  wr_getR2 (b := 3) (ci := 3) (k0 := 2) (idx := 21) lq_0 sq_0 (by decide) (by decide) lf_S_21 rfl vq_0_2 lq_3 (by decide +kernel) <|
  wr_invV (a := 3) (ci := 0) (mid2 := 63) (idx := 172) (b1 := 0) (b2 := 0) (c1 := 0) (c2 := 0) (as := []) (st := []) pl_63 rfl (Nat.le_of_ble_eq_true rfl) rfl rfl lq_3 sq_3 (by decide) rfl lm_S_172 im_63 is_63 (by decide +kernel) k1
theorem b_S_stitched_46 {X : aX} {d : Nat} {post : aO} {vi : Nat → Nat → Int32} {vl : Nat → Nat → Int64} {x1 x2 y0 : Int32} (k1 : CallOk X d 0 0 k_J_bitCount [.int y0] (mk vi vl) (fun r N' => wp X (d + 1) k_S_stitched 0 0 49 [some (.ref 0), some (.int x1), some (.int x2)] (pR r []) N' post)) : wp X (d + 1) k_S_stitched 0 0 46 [some (.ref 0), some (.int x1), some (.int x2)] [.int y0] (mk vi vl) post :=
  wr_invS (mid2 := 55) (idx := 146) (b1 := 0) (b2 := 0) (c1 := 0) (c2 := 0) (as := [.int y0]) (st := []) pl_55 rfl (Nat.le_of_ble_eq_true rfl) rfl rfl lm_S_146 it_55 (by decide +kernel) k1
theorem b_S_stitched_49 {X : aX} {d : Nat} {post : aO} {vi : Nat → Nat → Int32} {vl : Nat → Nat → Int64} {x1 x2 y0 : Int32} (k1 : post (some (.int y0)) (mk vi vl)) : wp X (d + 1) k_S_stitched 0 0 49 [some (.ref 0), some (.int x1), some (.int x2)] [.int y0] (mk vi vl) post :=
  wr_ret (r := some (.int y0)) (Or.inr (Or.inl ⟨_, rfl, (by decide +kernel), (Or.inl rfl)⟩)) k1
theorem b_S_unpick_0 {X : aX} {d : Nat} {post : aO} {vi : Nat → Nat → Int32} {vl : Nat → Nat → Int64} {x1 : Int32} (k1 : CallOk X d 0 0 k_S_isYear [.ref 0, .int x1] (mk vi vl) (fun r N' => wp X (d + 1) k_S_unpick 0 0 5 [some (.ref 0), some (.int x1)] (pR r []) N' post)) : wp X (d + 1) k_S_unpick 0 0 0 [some (.ref 0), some (.int x1)] [] (mk vi vl) post :=
  wr_aload_n (q := 0) (by decide +kernel) rfl rfl <|
  wr_iload_n (q := 1) (by decide +kernel) rfl rfl <|
  wr_invV (a := 0) (ci := 3) (mid2 := 45) (idx := 121) (b1 := 0) (b2 := 0) (c1 := 0) (c2 := 0) (as := [.int x1]) (st := []) pl_45 rfl (Nat.le_of_ble_eq_true rfl) rfl rfl lq_0 sq_0 (by decide) rfl lm_S_121 im_45 is_45 (by decide +kernel) k1
theorem b_S_unpick_5 {X : aX} {d : Nat} {post : aO} {vi : Nat → Nat → Int32} {vl : Nat → Nat → Int64} {x1 y0 : Int32} (k1 : ¬ y0 = 0 → wp X (d + 1) k_S_unpick 0 0 10 [some (.ref 0), some (.int x1)] [] (mk vi vl) post) (k2 : y0 = 0 → wp X (d + 1) k_S_unpick 0 0 8 [some (.ref 0), some (.int x1)] [] (mk vi vl) post) : wp X (d + 1) k_S_unpick 0 0 5 [some (.ref 0), some (.int x1)] [.int y0] (mk vi vl) post :=
  wr_if_ne (off := 5) (t := 10) (by decide +kernel) (by decide) k1 k2
theorem b_S_unpick_8 {X : aX} {d : Nat} {post : aO} {vi : Nat → Nat → Int32} {vl : Nat → Nat → Int64} {x1 : Int32} (k1 : post (some (.int (-1 : Int32))) (mk vi vl)) : wp X (d + 1) k_S_unpick 0 0 8 [some (.ref 0), some (.int x1)] [] (mk vi vl) post :=
  wr_iconst (n := -1) (v := (-1 : Int32)) (by decide +kernel) (by decide) <|
  wr_ret (r := some (.int (-1 : Int32))) (Or.inr (Or.inl ⟨_, rfl, (by decide +kernel), (Or.inl rfl)⟩)) k1
theorem b_S_unpick_10 {X : aX} {d : Nat} {post : aO} {vi : Nat → Nat → Int32} {vl : Nat → Nat → Int64} {x1 : Int32} (k1 : CallOk X d 0 0 k_S_stitched [.ref 0, .int x1, .int (5 : Int32)] (mk vi vl) (fun r N' => wp X (d + 1) k_S_unpick 0 0 16 [some (.ref 0), some (.int x1)] (pR r []) N' post)) : wp X (d + 1) k_S_unpick 0 0 10 [some (.ref 0), some (.int x1)] [] (mk vi vl) post :=
  wr_aload_n (q := 0) (by decide +kernel) rfl rfl <|
  wr_iload_n (q := 1) (by decide +kernel) rfl rfl <|
  wr_iconst (n := 5) (v := (5 : Int32)) (by decide +kernel) (by decide) <|
  wr_invV (a := 0) (ci := 3) (mid2 := 59) (idx := 160) (b1 := 0) (b2 := 0) (c1 := 0) (c2 := 0) (as := [.int x1, .int (5 : Int32)]) (st := []) pl_59 rfl (Nat.le_of_ble_eq_true rfl) rfl rfl lq_0 sq_0 (by decide) rfl lm_S_160 im_59 is_59 (by decide +kernel) k1
theorem b_S_unpick_16 {X : aX} {d : Nat} {post : aO} {vi : Nat → Nat → Int32} {vl : Nat → Nat → Int64} {x1 y0 : Int32} (k1 : post (some (.int y0)) (mk vi vl)) : wp X (d + 1) k_S_unpick 0 0 16 [some (.ref 0), some (.int x1)] [.int y0] (mk vi vl) post :=
  wr_ret (r := some (.int y0)) (Or.inr (Or.inl ⟨_, rfl, (by decide +kernel), (Or.inl rfl)⟩)) k1
theorem b_S_undo_0 {X : aX} {d : Nat} {post : aO} {vi : Nat → Nat → Int32} {vl : Nat → Nat → Int64} {x1 : Int32} (k1 : x1 < 0 → wp X (d + 1) k_S_undo 0 0 15 [some (.ref 0), some (.int x1), none] [] (mk vi vl) post) (k2 : ¬ x1 < 0 → wp X (d + 1) k_S_undo 0 0 4 [some (.ref 0), some (.int x1), none] [] (mk vi vl) post) : wp X (d + 1) k_S_undo 0 0 0 [some (.ref 0), some (.int x1), none] [] (mk vi vl) post :=
  wr_iload_n (q := 1) (by decide +kernel) rfl rfl <|
  wr_if_lt (off := 14) (t := 15) (by decide +kernel) (by decide) k1 k2
theorem b_S_undo_4 {X : aX} {d : Nat} {post : aO} {vi : Nat → Nat → Int32} {vl : Nat → Nat → Int64} {x1 : Int32} {o2 : Option Value} (k1 : x1 ≤ (vi 3 7) → wp X (d + 1) k_S_undo 0 0 17 [some (.ref 0), some (.int x1), o2] [] (mk vi vl) post) (k2 : ¬ x1 ≤ (vi 3 7) → wp X (d + 1) k_S_undo 0 0 15 [some (.ref 0), some (.int x1), o2] [] (mk vi vl) post) : wp X (d + 1) k_S_undo 0 0 4 [some (.ref 0), some (.int x1), o2] [] (mk vi vl) post :=
  wr_iload_n (q := 1) (by decide +kernel) rfl rfl <|
  wr_aload_n (q := 0) (by decide +kernel) rfl rfl <|
  wr_getR2 (b := 3) (ci := 3) (k0 := 2) (idx := 21) lq_0 sq_0 (by decide) (by decide) lf_S_21 rfl vq_0_2 lq_3 (by decide +kernel) <|
  wr_getI (ci := 0) (k0 := 7) (idx := 157) lq_3 sq_3 (by decide) (by decide) lf_S_157 (Or.inl rfl) (by decide +kernel) <|
  wr_icmp_le (off := 5) (t := 17) (by decide +kernel) (by decide) k1 k2
theorem b_S_undo_15 {X : aX} {d : Nat} {post : aO} {vi : Nat → Nat → Int32} {vl : Nat → Nat → Int64} {x1 : Int32} {o2 : Option Value} (k1 : post (some (.int (-1 : Int32))) (mk vi vl)) : wp X (d + 1) k_S_undo 0 0 15 [some (.ref 0), some (.int x1), o2] [] (mk vi vl) post :=
  wr_iconst (n := -1) (v := (-1 : Int32)) (by decide +kernel) (by decide) <|
  wr_ret (r := some (.int (-1 : Int32))) (Or.inr (Or.inl ⟨_, rfl, (by decide +kernel), (Or.inl rfl)⟩)) k1
theorem b_S_undo_17 {X : aX} {d : Nat} {post : aO} {vi : Nat → Nat → Int32} {vl : Nat → Nat → Int64} {x1 : Int32} {o2 : Option Value} (k1 : CallOk X d 0 0 k_C_unstitch [.ref 3, .int x1] (mk vi vl) (fun r N' => wp X (d + 1) k_S_undo 0 0 35 [some (.ref 0), some (.int x1), some (.int ((vi 3 7) - x1))] (pR r []) N' post)) : wp X (d + 1) k_S_undo 0 0 17 [some (.ref 0), some (.int x1), o2] [] (mk vi vl) post :=
  wr_aload_n (q := 0) (by decide +kernel) rfl rfl <|
  wr_getR2 (b := 3) (ci := 3) (k0 := 2) (idx := 21) lq_0 sq_0 (by decide) (by decide) lf_S_21 rfl vq_0_2 lq_3 (by decide +kernel) <|
  wr_getI (ci := 0) (k0 := 7) (idx := 157) lq_3 sq_3 (by decide) (by decide) lf_S_157 (Or.inl rfl) (by decide +kernel) <|
  wr_iload_n (q := 1) (by decide +kernel) rfl rfl <|
  wr_isub (by decide +kernel) <|
  wr_istore_n (q := 2) (by decide +kernel) rfl (by decide) <|
  wr_aload_n (q := 0) (by decide +kernel) rfl rfl <|
  wr_getR2 (b := 3) (ci := 3) (k0 := 2) (idx := 21) lq_0 sq_0 (by decide) (by decide) lf_S_21 rfl vq_0_2 lq_3 (by decide +kernel) <|
  wr_iload_n (q := 1) (by decide +kernel) rfl rfl <|
  wr_invV (a := 3) (ci := 0) (mid2 := 66) (idx := 163) (b1 := 0) (b2 := 0) (c1 := 0) (c2 := 0) (as := [.int x1]) (st := []) pl_66 rfl (Nat.le_of_ble_eq_true rfl) rfl rfl lq_3 sq_3 (by decide) rfl lm_S_163 im_66 is_66 (by decide +kernel) k1
theorem b_S_undo_35 {X : aX} {d : Nat} {post : aO} {vi : Nat → Nat → Int32} {vl : Nat → Nat → Int64} {x1 x2 : Int32} (k1 : post (some (.int x2)) (mk vi vl)) : wp X (d + 1) k_S_undo 0 0 35 [some (.ref 0), some (.int x1), some (.int x2)] [] (mk vi vl) post :=
  wr_iload_n (q := 2) (by decide +kernel) rfl rfl <|
  wr_ret (r := some (.int x2)) (Or.inr (Or.inl ⟨_, rfl, (by decide +kernel), (Or.inl rfl)⟩)) k1
theorem b_S_keep_0 {X : aX} {d : Nat} {post : aO} {vi : Nat → Nat → Int32} {vl : Nat → Nat → Int64} {x1 : Int32} (k1 : CallOk X d 0 0 k_S_isKeptPlace [.int x1] (mk vi vl) (fun r N' => wp X (d + 1) k_S_keep 0 0 4 [some (.ref 0), some (.int x1)] (pR r []) N' post)) : wp X (d + 1) k_S_keep 0 0 0 [some (.ref 0), some (.int x1)] [] (mk vi vl) post :=
  wr_iload_n (q := 1) (by decide +kernel) rfl rfl <|
  wr_invS (mid2 := 68) (idx := 166) (b1 := 0) (b2 := 0) (c1 := 0) (c2 := 0) (as := [.int x1]) (st := []) pl_68 rfl (Nat.le_of_ble_eq_true rfl) rfl rfl lm_S_166 it_68 (by decide +kernel) k1
theorem b_S_keep_4 {X : aX} {d : Nat} {post : aO} {vi : Nat → Nat → Int32} {vl : Nat → Nat → Int64} {x1 y0 : Int32} (k1 : ¬ y0 = 0 → wp X (d + 1) k_S_keep 0 0 9 [some (.ref 0), some (.int x1)] [] (mk vi vl) post) (k2 : y0 = 0 → wp X (d + 1) k_S_keep 0 0 7 [some (.ref 0), some (.int x1)] [] (mk vi vl) post) : wp X (d + 1) k_S_keep 0 0 4 [some (.ref 0), some (.int x1)] [.int y0] (mk vi vl) post :=
  wr_if_ne (off := 5) (t := 9) (by decide +kernel) (by decide) k1 k2
theorem b_S_keep_7 {X : aX} {d : Nat} {post : aO} {vi : Nat → Nat → Int32} {vl : Nat → Nat → Int64} {x1 : Int32} (k1 : post (some (.int (-1 : Int32))) (mk vi vl)) : wp X (d + 1) k_S_keep 0 0 7 [some (.ref 0), some (.int x1)] [] (mk vi vl) post :=
  wr_iconst (n := -1) (v := (-1 : Int32)) (by decide +kernel) (by decide) <|
  wr_ret (r := some (.int (-1 : Int32))) (Or.inr (Or.inl ⟨_, rfl, (by decide +kernel), (Or.inl rfl)⟩)) k1
theorem b_S_keep_9 {X : aX} {d : Nat} {post : aO} {vi : Nat → Nat → Int32} {vl : Nat → Nat → Int64} {x1 : Int32} (k1 : ¬ (vi 3 0) = 0 → wp X (d + 1) k_S_keep 0 0 22 [some (.ref 0), some (.int x1)] [] (mk vi vl) post) (k2 : (vi 3 0) = 0 → wp X (d + 1) k_S_keep 0 0 19 [some (.ref 0), some (.int x1)] [] (mk vi vl) post) : wp X (d + 1) k_S_keep 0 0 9 [some (.ref 0), some (.int x1)] [] (mk vi vl) post :=
  wr_aload_n (q := 0) (by decide +kernel) rfl rfl <|
  wr_getR2 (b := 3) (ci := 3) (k0 := 2) (idx := 21) lq_0 sq_0 (by decide) (by decide) lf_S_21 rfl vq_0_2 lq_3 (by decide +kernel) <|
  wr_getI (ci := 0) (k0 := 0) (idx := 118) lq_3 sq_3 (by decide) (by decide) lf_S_118 (Or.inl rfl) (by decide +kernel) <|
  wr_if_ne (off := 6) (t := 22) (by decide +kernel) (by decide) k1 k2
theorem b_S_keep_19 {X : aX} {d : Nat} {post : aO} {vi : Nat → Nat → Int32} {vl : Nat → Nat → Int64} {x1 : Int32} (k1 : post (some (.int (-4 : Int32))) (mk vi vl)) : wp X (d + 1) k_S_keep 0 0 19 [some (.ref 0), some (.int x1)] [] (mk vi vl) post :=
  wr_bipush (n := -4) (v := (-4 : Int32)) (by decide +kernel) (by decide) <|
  wr_ret (r := some (.int (-4 : Int32))) (Or.inr (Or.inl ⟨_, rfl, (by decide +kernel), (Or.inl rfl)⟩)) k1
theorem b_S_keep_22 {X : aX} {d : Nat} {post : aO} {vi : Nat → Nat → Int32} {vl : Nat → Nat → Int64} {x1 : Int32} (q1 : vp_in x1 3) (k1 : CallOk X d 0 0 k_C_take [.ref (62 + 11 * x1.toNatClampNeg), .ref 3] (mk vi vl) (fun r N' => wp X (d + 1) k_S_keep 0 0 35 [some (.ref 0), some (.int x1)] (pR r []) N' post)) : wp X (d + 1) k_S_keep 0 0 22 [some (.ref 0), some (.int x1)] [] (mk vi vl) post :=
  wr_aload_n (q := 0) (by decide +kernel) rfl rfl <|
  wr_getR2 (b := 25) (ci := 3) (k0 := 4) (idx := 28) lq_0 sq_0 (by decide) (by decide) lf_S_28 rfl vq_0_4 lq_25 (by decide +kernel) <|
  wr_iload_n (q := 1) (by decide +kernel) rfl rfl <|
  wr_aald2 (b := 62 + 11 * x1.toNatClampNeg) lq_25 sq_25 (Or.inr rfl) q1 (kept_v (vin_lt q1)) (cl_lt0 (kept_i (vin_lt q1))) (by decide +kernel) <|
  wr_aload_n (q := 0) (by decide +kernel) rfl rfl <|
  wr_getR2 (b := 3) (ci := 3) (k0 := 2) (idx := 21) lq_0 sq_0 (by decide) (by decide) lf_S_21 rfl vq_0_2 lq_3 (by decide +kernel) <|
  wr_invV (a := 62 + 11 * x1.toNatClampNeg) (ci := 0) (mid2 := 38) (idx := 108) (b1 := 0) (b2 := 0) (c1 := 0) (c2 := 0) (as := [.ref 3]) (st := []) pl_38 rfl (Nat.le_of_ble_eq_true rfl) rfl rfl (cl_lt0 (kept_i (vin_lt q1))) (cl_s0 (kept_i (vin_lt q1))) (by decide) rfl lm_S_108 im_38 is_38 (by decide +kernel) k1
theorem b_S_keep_35 {X : aX} {d : Nat} {post : aO} {vi : Nat → Nat → Int32} {vl : Nat → Nat → Int64} {x1 : Int32} (k1 : post (some (.int (vi 3 7))) (mk vi vl)) : wp X (d + 1) k_S_keep 0 0 35 [some (.ref 0), some (.int x1)] [] (mk vi vl) post :=
  wr_aload_n (q := 0) (by decide +kernel) rfl rfl <|
  wr_getR2 (b := 3) (ci := 3) (k0 := 2) (idx := 21) lq_0 sq_0 (by decide) (by decide) lf_S_21 rfl vq_0_2 lq_3 (by decide +kernel) <|
  wr_getI (ci := 0) (k0 := 7) (idx := 157) lq_3 sq_3 (by decide) (by decide) lf_S_157 (Or.inl rfl) (by decide +kernel) <|
  wr_ret (r := some (.int (vi 3 7))) (Or.inr (Or.inl ⟨_, rfl, (by decide +kernel), (Or.inl rfl)⟩)) k1
theorem b_S_isKeptPlace_0 {X : aX} {d : Nat} {post : aO} {vi : Nat → Nat → Int32} {vl : Nat → Nat → Int64} {x0 : Int32} (k1 : x0 < 0 → wp X (d + 1) k_S_isKeptPlace 0 0 13 [some (.int x0)] [] (mk vi vl) post) (k2 : ¬ x0 < 0 → wp X (d + 1) k_S_isKeptPlace 0 0 4 [some (.int x0)] [] (mk vi vl) post) : wp X (d + 1) k_S_isKeptPlace 0 0 0 [some (.int x0)] [] (mk vi vl) post :=
  wr_iload_n (q := 0) (by decide +kernel) rfl rfl <|
  wr_if_lt (off := 12) (t := 13) (by decide +kernel) (by decide) k1 k2
theorem b_S_isKeptPlace_4 {X : aX} {d : Nat} {post : aO} {vi : Nat → Nat → Int32} {vl : Nat → Nat → Int64} {x0 : Int32} (k1 : (3 : Int32) ≤ x0 → wp X (d + 1) k_S_isKeptPlace 0 0 13 [some (.int x0)] [] (mk vi vl) post) (k2 : ¬ (3 : Int32) ≤ x0 → wp X (d + 1) k_S_isKeptPlace 0 0 9 [some (.int x0)] [] (mk vi vl) post) : wp X (d + 1) k_S_isKeptPlace 0 0 4 [some (.int x0)] [] (mk vi vl) post :=
  wr_iload_n (q := 0) (by decide +kernel) rfl rfl <|
  wr_iconst (n := 3) (v := (3 : Int32)) (by decide +kernel) (by decide) <|
  wr_icmp_ge (off := 7) (t := 13) (by decide +kernel) (by decide) k1 k2
theorem b_S_isKeptPlace_9 {X : aX} {d : Nat} {post : aO} {vi : Nat → Nat → Int32} {vl : Nat → Nat → Int64} {x0 : Int32} (k1 : wp X (d + 1) k_S_isKeptPlace 0 0 14 [some (.int x0)] [.int (1 : Int32)] (mk vi vl) post) : wp X (d + 1) k_S_isKeptPlace 0 0 9 [some (.int x0)] [] (mk vi vl) post :=
  wr_iconst (n := 1) (v := (1 : Int32)) (by decide +kernel) (by decide) <|
  wr_goto (off := 4) (t := 14) (by decide +kernel) (by decide) k1
theorem b_S_isKeptPlace_13 {X : aX} {d : Nat} {post : aO} {vi : Nat → Nat → Int32} {vl : Nat → Nat → Int64} {x0 : Int32} (k1 : wp X (d + 1) k_S_isKeptPlace 0 0 14 [some (.int x0)] [.int (0 : Int32)] (mk vi vl) post) : wp X (d + 1) k_S_isKeptPlace 0 0 13 [some (.int x0)] [] (mk vi vl) post :=
  wr_iconst (n := 0) (v := (0 : Int32)) (by decide +kernel) (by decide) <|
  k1
theorem b_S_isKeptPlace_14 {X : aX} {d : Nat} {post : aO} {vi : Nat → Nat → Int32} {vl : Nat → Nat → Int64} {x0 y0 : Int32} (q1 : y0 = 0 ∨ y0 = 1) (k1 : post (some (.int y0)) (mk vi vl)) : wp X (d + 1) k_S_isKeptPlace 0 0 14 [some (.int x0)] [.int y0] (mk vi vl) post :=
  wr_ret (r := some (.int y0)) (Or.inr (Or.inl ⟨_, rfl, (by decide +kernel), (Or.inr ⟨rfl, q1⟩)⟩)) k1
theorem b_S_on_0 {X : aX} {d : Nat} {post : aO} {vi : Nat → Nat → Int32} {vl : Nat → Nat → Int64} {x1 : Int32} (k1 : CallOk X d 0 0 k_S_isKeptPlace [.int x1] (mk vi vl) (fun r N' => wp X (d + 1) k_S_on 0 0 4 [some (.ref 0), some (.int x1)] (pR r []) N' post)) : wp X (d + 1) k_S_on 0 0 0 [some (.ref 0), some (.int x1)] [] (mk vi vl) post :=
  wr_iload_n (q := 1) (by decide +kernel) rfl rfl <|
  wr_invS (mid2 := 68) (idx := 166) (b1 := 0) (b2 := 0) (c1 := 0) (c2 := 0) (as := [.int x1]) (st := []) pl_68 rfl (Nat.le_of_ble_eq_true rfl) rfl rfl lm_S_166 it_68 (by decide +kernel) k1
theorem b_S_on_4 {X : aX} {d : Nat} {post : aO} {vi : Nat → Nat → Int32} {vl : Nat → Nat → Int64} {x1 y0 : Int32} (k1 : ¬ y0 = 0 → wp X (d + 1) k_S_on 0 0 9 [some (.ref 0), some (.int x1)] [] (mk vi vl) post) (k2 : y0 = 0 → wp X (d + 1) k_S_on 0 0 7 [some (.ref 0), some (.int x1)] [] (mk vi vl) post) : wp X (d + 1) k_S_on 0 0 4 [some (.ref 0), some (.int x1)] [.int y0] (mk vi vl) post :=
  wr_if_ne (off := 5) (t := 9) (by decide +kernel) (by decide) k1 k2
theorem b_S_on_7 {X : aX} {d : Nat} {post : aO} {vi : Nat → Nat → Int32} {vl : Nat → Nat → Int64} {x1 : Int32} (k1 : post (some (.int (-1 : Int32))) (mk vi vl)) : wp X (d + 1) k_S_on 0 0 7 [some (.ref 0), some (.int x1)] [] (mk vi vl) post :=
  wr_iconst (n := -1) (v := (-1 : Int32)) (by decide +kernel) (by decide) <|
  wr_ret (r := some (.int (-1 : Int32))) (Or.inr (Or.inl ⟨_, rfl, (by decide +kernel), (Or.inl rfl)⟩)) k1
theorem b_S_on_9 {X : aX} {d : Nat} {post : aO} {vi : Nat → Nat → Int32} {vl : Nat → Nat → Int64} {x1 : Int32} (q1 : vp_in x1 3) (k1 : ¬ (vi (62 + 11 * x1.toNatClampNeg) 0) = 0 → wp X (d + 1) k_S_on 0 0 27 [some (.ref 0), some (.int x1)] [] (mk vi vl) post) (k2 : (vi (62 + 11 * x1.toNatClampNeg) 0) = 0 → wp X (d + 1) k_S_on 0 0 21 [some (.ref 0), some (.int x1)] [] (mk vi vl) post) : wp X (d + 1) k_S_on 0 0 9 [some (.ref 0), some (.int x1)] [] (mk vi vl) post :=
  wr_aload_n (q := 0) (by decide +kernel) rfl rfl <|
  wr_getR2 (b := 25) (ci := 3) (k0 := 4) (idx := 28) lq_0 sq_0 (by decide) (by decide) lf_S_28 rfl vq_0_4 lq_25 (by decide +kernel) <|
  wr_iload_n (q := 1) (by decide +kernel) rfl rfl <|
  wr_aald2 (b := 62 + 11 * x1.toNatClampNeg) lq_25 sq_25 (Or.inr rfl) q1 (kept_v (vin_lt q1)) (cl_lt0 (kept_i (vin_lt q1))) (by decide +kernel) <|
  wr_getI (ci := 0) (k0 := 0) (idx := 118) (cl_lt0 (kept_i (vin_lt q1))) (cl_s0 (kept_i (vin_lt q1))) (by decide) (by decide) lf_S_118 (Or.inl rfl) (by decide +kernel) <|
  wr_if_ne (off := 9) (t := 27) (by decide +kernel) (by decide) k1 k2
theorem b_S_on_21 {X : aX} {d : Nat} {post : aO} {vi : Nat → Nat → Int32} {vl : Nat → Nat → Int64} {x1 : Int32} (k1 : CallOk X d 0 0 k_S_refuse [.ref 0, .int (1 : Int32)] (mk vi vl) (fun r N' => wp X (d + 1) k_S_on 0 0 26 [some (.ref 0), some (.int x1)] (pR r []) N' post)) : wp X (d + 1) k_S_on 0 0 21 [some (.ref 0), some (.int x1)] [] (mk vi vl) post :=
  wr_aload_n (q := 0) (by decide +kernel) rfl rfl <|
  wr_iconst (n := 1) (v := (1 : Int32)) (by decide +kernel) (by decide) <|
  wr_invV (a := 0) (ci := 3) (mid2 := 8) (idx := 64) (b1 := 0) (b2 := 0) (c1 := 0) (c2 := 0) (as := [.int (1 : Int32)]) (st := []) pl_8 rfl (Nat.le_of_ble_eq_true rfl) rfl rfl lq_0 sq_0 (by decide) rfl lm_S_64 im_8 is_8 (by decide +kernel) k1
theorem b_S_on_26 {X : aX} {d : Nat} {post : aO} {vi : Nat → Nat → Int32} {vl : Nat → Nat → Int64} {x1 y0 : Int32} (k1 : post (some (.int y0)) (mk vi vl)) : wp X (d + 1) k_S_on 0 0 26 [some (.ref 0), some (.int x1)] [.int y0] (mk vi vl) post :=
  wr_ret (r := some (.int y0)) (Or.inr (Or.inl ⟨_, rfl, (by decide +kernel), (Or.inl rfl)⟩)) k1
theorem b_S_on_27 {X : aX} {d : Nat} {post : aO} {vi : Nat → Nat → Int32} {vl : Nat → Nat → Int64} {x1 : Int32} (q1 : vp_in x1 3) (k1 : CallOk X d 0 0 k_C_take [.ref 3, .ref (62 + 11 * x1.toNatClampNeg)] (mk vi vl) (fun r N' => wp X (d + 1) k_S_on 0 0 40 [some (.ref 0), some (.int x1)] (pR r []) N' post)) : wp X (d + 1) k_S_on 0 0 27 [some (.ref 0), some (.int x1)] [] (mk vi vl) post :=
  wr_aload_n (q := 0) (by decide +kernel) rfl rfl <|
  wr_getR2 (b := 3) (ci := 3) (k0 := 2) (idx := 21) lq_0 sq_0 (by decide) (by decide) lf_S_21 rfl vq_0_2 lq_3 (by decide +kernel) <|
  wr_aload_n (q := 0) (by decide +kernel) rfl rfl <|
  wr_getR2 (b := 25) (ci := 3) (k0 := 4) (idx := 28) lq_0 sq_0 (by decide) (by decide) lf_S_28 rfl vq_0_4 lq_25 (by decide +kernel) <|
  wr_iload_n (q := 1) (by decide +kernel) rfl rfl <|
  wr_aald2 (b := 62 + 11 * x1.toNatClampNeg) lq_25 sq_25 (Or.inr rfl) q1 (kept_v (vin_lt q1)) (cl_lt0 (kept_i (vin_lt q1))) (by decide +kernel) <|
  wr_invV (a := 3) (ci := 0) (mid2 := 38) (idx := 108) (b1 := 0) (b2 := 0) (c1 := 0) (c2 := 0) (as := [.ref (62 + 11 * x1.toNatClampNeg)]) (st := []) pl_38 rfl (Nat.le_of_ble_eq_true rfl) rfl rfl lq_3 sq_3 (by decide) rfl lm_S_108 im_38 is_38 (by decide +kernel) k1
theorem b_S_on_40 {X : aX} {d : Nat} {post : aO} {vi : Nat → Nat → Int32} {vl : Nat → Nat → Int64} {x1 : Int32} (k1 : CallOk X d 0 0 k_C_settleFrom [.ref 3, .int (0 : Int32)] (mk vi vl) (fun r N' => wp X (d + 1) k_S_on 0 0 48 [some (.ref 0), some (.int x1)] (pR r []) N' post)) : wp X (d + 1) k_S_on 0 0 40 [some (.ref 0), some (.int x1)] [] (mk vi vl) post :=
  wr_aload_n (q := 0) (by decide +kernel) rfl rfl <|
  wr_getR2 (b := 3) (ci := 3) (k0 := 2) (idx := 21) lq_0 sq_0 (by decide) (by decide) lf_S_21 rfl vq_0_2 lq_3 (by decide +kernel) <|
  wr_iconst (n := 0) (v := (0 : Int32)) (by decide +kernel) (by decide) <|
  wr_invV (a := 3) (ci := 0) (mid2 := 39) (idx := 112) (b1 := 0) (b2 := 0) (c1 := 0) (c2 := 0) (as := [.int (0 : Int32)]) (st := []) pl_39 rfl (Nat.le_of_ble_eq_true rfl) rfl rfl lq_3 sq_3 (by decide) rfl lm_S_112 im_39 is_39 (by decide +kernel) k1
theorem b_S_on_48 {X : aX} {d : Nat} {post : aO} {vi : Nat → Nat → Int32} {vl : Nat → Nat → Int64} {x1 : Int32} (k1 : post (some (.int (vi 3 7))) (mk vi vl)) : wp X (d + 1) k_S_on 0 0 48 [some (.ref 0), some (.int x1)] [] (mk vi vl) post :=
  wr_aload_n (q := 0) (by decide +kernel) rfl rfl <|
  wr_getR2 (b := 3) (ci := 3) (k0 := 2) (idx := 21) lq_0 sq_0 (by decide) (by decide) lf_S_21 rfl vq_0_2 lq_3 (by decide +kernel) <|
  wr_getI (ci := 0) (k0 := 7) (idx := 157) lq_3 sq_3 (by decide) (by decide) lf_S_157 (Or.inl rfl) (by decide +kernel) <|
  wr_ret (r := some (.int (vi 3 7))) (Or.inr (Or.inl ⟨_, rfl, (by decide +kernel), (Or.inl rfl)⟩)) k1
theorem b_S_happens_0 {X : aX} {d : Nat} {post : aO} {vi : Nat → Nat → Int32} {vl : Nat → Nat → Int64} {x1 : Int32} (k1 : CallOk X d 0 0 k_S_isScene [.int x1] (mk vi vl) (fun r N' => wp X (d + 1) k_S_happens 0 0 4 [some (.ref 0), some (.int x1)] (pR r []) N' post)) : wp X (d + 1) k_S_happens 0 0 0 [some (.ref 0), some (.int x1)] [] (mk vi vl) post :=
  wr_iload_n (q := 1) (by decide +kernel) rfl rfl <|
  wr_invS (mid2 := 31) (idx := 154) (b1 := 0) (b2 := 0) (c1 := 0) (c2 := 0) (as := [.int x1]) (st := []) pl_31 rfl (Nat.le_of_ble_eq_true rfl) rfl rfl lm_S_154 it_31 (by decide +kernel) k1
theorem b_S_happens_4 {X : aX} {d : Nat} {post : aO} {vi : Nat → Nat → Int32} {vl : Nat → Nat → Int64} {x1 y0 : Int32} (k1 : ¬ y0 = 0 → wp X (d + 1) k_S_happens 0 0 9 [some (.ref 0), some (.int x1)] [] (mk vi vl) post) (k2 : y0 = 0 → wp X (d + 1) k_S_happens 0 0 7 [some (.ref 0), some (.int x1)] [] (mk vi vl) post) : wp X (d + 1) k_S_happens 0 0 4 [some (.ref 0), some (.int x1)] [.int y0] (mk vi vl) post :=
  wr_if_ne (off := 5) (t := 9) (by decide +kernel) (by decide) k1 k2
theorem b_S_happens_7 {X : aX} {d : Nat} {post : aO} {vi : Nat → Nat → Int32} {vl : Nat → Nat → Int64} {x1 : Int32} (k1 : post (some (.int (-1 : Int32))) (mk vi vl)) : wp X (d + 1) k_S_happens 0 0 7 [some (.ref 0), some (.int x1)] [] (mk vi vl) post :=
  wr_iconst (n := -1) (v := (-1 : Int32)) (by decide +kernel) (by decide) <|
  wr_ret (r := some (.int (-1 : Int32))) (Or.inr (Or.inl ⟨_, rfl, (by decide +kernel), (Or.inl rfl)⟩)) k1
theorem b_S_happens_9 {X : aX} {d : Nat} {post : aO} {vi : Nat → Nat → Int32} {vl : Nat → Nat → Int64} {x1 : Int32} (k1 : CallOk X d 0 0 k_C_yearsWith [.ref 3, .int x1] (mk vi vl) (fun r N' => wp X (d + 1) k_S_happens 0 0 18 [some (.ref 0), some (.int x1)] (pR r [.ref 0]) N' post)) : wp X (d + 1) k_S_happens 0 0 9 [some (.ref 0), some (.int x1)] [] (mk vi vl) post :=
  wr_aload_n (q := 0) (by decide +kernel) rfl rfl <|
  wr_aload_n (q := 0) (by decide +kernel) rfl rfl <|
  wr_getR2 (b := 3) (ci := 3) (k0 := 2) (idx := 21) lq_0 sq_0 (by decide) (by decide) lf_S_21 rfl vq_0_2 lq_3 (by decide +kernel) <|
  wr_iload_n (q := 1) (by decide +kernel) rfl rfl <|
  wr_invV (a := 3) (ci := 0) (mid2 := 54) (idx := 140) (b1 := 0) (b2 := 0) (c1 := 0) (c2 := 0) (as := [.int x1]) (st := [.ref 0]) pl_54 rfl (Nat.le_of_ble_eq_true rfl) rfl rfl lq_3 sq_3 (by decide) rfl lm_S_140 im_54 is_54 (by decide +kernel) k1
theorem b_S_happens_18 {X : aX} {d : Nat} {post : aO} {vi : Nat → Nat → Int32} {vl : Nat → Nat → Int64} {x1 y1 : Int32} (k1 : ∀ w, w = up2 vi 0 8 y1 → wp X (d + 1) k_S_happens 0 0 21 [some (.ref 0), some (.int x1)] [] (mk w vl) post) : wp X (d + 1) k_S_happens 0 0 18 [some (.ref 0), some (.int x1)] [.int y1, .ref 0] (mk vi vl) post :=
  wr_putI (ci := 3) (k0 := 8) (idx := 47) lq_0 sq_0 (by decide) (by decide) lf_S_47 rfl (by decide +kernel) <|
  k1 _ rfl
theorem b_S_happens_21 {X : aX} {d : Nat} {post : aO} {vi : Nat → Nat → Int32} {vl : Nat → Nat → Int64} {x1 : Int32} (k1 : CallOk X d 0 0 k_J_bitCount [.int (vi 0 8)] (mk vi vl) (fun r N' => wp X (d + 1) k_S_happens 0 0 28 [some (.ref 0), some (.int x1)] (pR r []) N' post)) : wp X (d + 1) k_S_happens 0 0 21 [some (.ref 0), some (.int x1)] [] (mk vi vl) post :=
  wr_aload_n (q := 0) (by decide +kernel) rfl rfl <|
  wr_getI (ci := 3) (k0 := 8) (idx := 47) lq_0 sq_0 (by decide) (by decide) lf_S_47 (Or.inl rfl) (by decide +kernel) <|
  wr_invS (mid2 := 55) (idx := 146) (b1 := 0) (b2 := 0) (c1 := 0) (c2 := 0) (as := [.int (vi 0 8)]) (st := []) pl_55 rfl (Nat.le_of_ble_eq_true rfl) rfl rfl lm_S_146 it_55 (by decide +kernel) k1
theorem b_S_happens_28 {X : aX} {d : Nat} {post : aO} {vi : Nat → Nat → Int32} {vl : Nat → Nat → Int64} {x1 y0 : Int32} (k1 : post (some (.int y0)) (mk vi vl)) : wp X (d + 1) k_S_happens 0 0 28 [some (.ref 0), some (.int x1)] [.int y0] (mk vi vl) post :=
  wr_ret (r := some (.int y0)) (Or.inr (Or.inl ⟨_, rfl, (by decide +kernel), (Or.inl rfl)⟩)) k1
theorem b_S_by_0 {X : aX} {d : Nat} {post : aO} {vi : Nat → Nat → Int32} {vl : Nat → Nat → Int64} {x1 : Int32} (k1 : CallOk X d 0 0 k_S_isYear [.ref 0, .int x1] (mk vi vl) (fun r N' => wp X (d + 1) k_S_by 0 0 5 [some (.ref 0), some (.int x1)] (pR r []) N' post)) : wp X (d + 1) k_S_by 0 0 0 [some (.ref 0), some (.int x1)] [] (mk vi vl) post :=
  wr_aload_n (q := 0) (by decide +kernel) rfl rfl <|
  wr_iload_n (q := 1) (by decide +kernel) rfl rfl <|
  wr_invV (a := 0) (ci := 3) (mid2 := 45) (idx := 121) (b1 := 0) (b2 := 0) (c1 := 0) (c2 := 0) (as := [.int x1]) (st := []) pl_45 rfl (Nat.le_of_ble_eq_true rfl) rfl rfl lq_0 sq_0 (by decide) rfl lm_S_121 im_45 is_45 (by decide +kernel) k1
theorem b_S_by_5 {X : aX} {d : Nat} {post : aO} {vi : Nat → Nat → Int32} {vl : Nat → Nat → Int64} {x1 y0 : Int32} (k1 : ¬ y0 = 0 → wp X (d + 1) k_S_by 0 0 10 [some (.ref 0), some (.int x1)] [] (mk vi vl) post) (k2 : y0 = 0 → wp X (d + 1) k_S_by 0 0 8 [some (.ref 0), some (.int x1)] [] (mk vi vl) post) : wp X (d + 1) k_S_by 0 0 5 [some (.ref 0), some (.int x1)] [.int y0] (mk vi vl) post :=
  wr_if_ne (off := 5) (t := 10) (by decide +kernel) (by decide) k1 k2
theorem b_S_by_8 {X : aX} {d : Nat} {post : aO} {vi : Nat → Nat → Int32} {vl : Nat → Nat → Int64} {x1 : Int32} (k1 : post (some (.int (-1 : Int32))) (mk vi vl)) : wp X (d + 1) k_S_by 0 0 8 [some (.ref 0), some (.int x1)] [] (mk vi vl) post :=
  wr_iconst (n := -1) (v := (-1 : Int32)) (by decide +kernel) (by decide) <|
  wr_ret (r := some (.int (-1 : Int32))) (Or.inr (Or.inl ⟨_, rfl, (by decide +kernel), (Or.inl rfl)⟩)) k1
theorem b_S_by_10 {X : aX} {d : Nat} {post : aO} {vi : Nat → Nat → Int32} {vl : Nat → Nat → Int64} {x1 : Int32} (q1 : vp_in x1 5) (k1 : post (some (.int (vi 13 x1.toNatClampNeg))) (mk vi vl)) : wp X (d + 1) k_S_by 0 0 10 [some (.ref 0), some (.int x1)] [] (mk vi vl) post :=
  wr_aload_n (q := 0) (by decide +kernel) rfl rfl <|
  wr_getR2 (b := 3) (ci := 3) (k0 := 2) (idx := 21) lq_0 sq_0 (by decide) (by decide) lf_S_21 rfl vq_0_2 lq_3 (by decide +kernel) <|
  wr_getR2 (b := 13) (ci := 0) (k0 := 12) (idx := 169) lq_3 sq_3 (by decide) (by decide) lf_S_169 rfl vq_3_12 lq_13 (by decide +kernel) <|
  wr_iload_n (q := 1) (by decide +kernel) rfl rfl <|
  wr_iald lq_13 sq_13 q1 (by decide +kernel) <|
  wr_ret (r := some (.int (vi 13 x1.toNatClampNeg))) (Or.inr (Or.inl ⟨_, rfl, (by decide +kernel), (Or.inl rfl)⟩)) k1
theorem b_S_broken_0 {X : aX} {d : Nat} {post : aO} {vi : Nat → Nat → Int32} {vl : Nat → Nat → Int64}  (k1 : CallOk X d 0 0 k_C_brokenLaws [.ref 3] (mk vi vl) (fun r N' => wp X (d + 1) k_S_broken 0 0 7 [some (.ref 0), none] (pR r []) N' post)) : wp X (d + 1) k_S_broken 0 0 0 [some (.ref 0), none] [] (mk vi vl) post :=
  wr_aload_n (q := 0) (by decide +kernel) rfl rfl <|
  wr_getR2 (b := 3) (ci := 3) (k0 := 2) (idx := 21) lq_0 sq_0 (by decide) (by decide) lf_S_21 rfl vq_0_2 lq_3 (by decide +kernel) <|
  wr_invV (a := 3) (ci := 0) (mid2 := 63) (idx := 172) (b1 := 0) (b2 := 0) (c1 := 0) (c2 := 0) (as := []) (st := []) pl_63 rfl (Nat.le_of_ble_eq_true rfl) rfl rfl lq_3 sq_3 (by decide) rfl lm_S_172 im_63 is_63 (by decide +kernel) k1
theorem b_S_broken_7 {X : aX} {d : Nat} {post : aO} {vi : Nat → Nat → Int32} {vl : Nat → Nat → Int64} {o1 : Option Value} {y0 : Int32} (k1 : CallOk X d 0 0 k_C_firstYearOf [.ref 3, .int y0] (mk vi vl) (fun r N' => wp X (d + 1) k_S_broken 0 0 17 [some (.ref 0), some (.int y0)] (pR r [.ref 0]) N' post)) : wp X (d + 1) k_S_broken 0 0 7 [some (.ref 0), o1] [.int y0] (mk vi vl) post :=
  wr_istore_n (q := 1) (by decide +kernel) rfl (by decide) <|
  wr_aload_n (q := 0) (by decide +kernel) rfl rfl <|
  wr_aload_n (q := 0) (by decide +kernel) rfl rfl <|
  wr_getR2 (b := 3) (ci := 3) (k0 := 2) (idx := 21) lq_0 sq_0 (by decide) (by decide) lf_S_21 rfl vq_0_2 lq_3 (by decide +kernel) <|
  wr_iload_n (q := 1) (by decide +kernel) rfl rfl <|
  wr_invV (a := 3) (ci := 0) (mid2 := 73) (idx := 176) (b1 := 0) (b2 := 0) (c1 := 0) (c2 := 0) (as := [.int y0]) (st := [.ref 0]) pl_73 rfl (Nat.le_of_ble_eq_true rfl) rfl rfl lq_3 sq_3 (by decide) rfl lm_S_176 im_73 is_73 (by decide +kernel) k1
theorem b_S_broken_17 {X : aX} {d : Nat} {post : aO} {vi : Nat → Nat → Int32} {vl : Nat → Nat → Int64} {x1 y1 : Int32} (k1 : ∀ w, w = up2 vi 0 8 y1 → wp X (d + 1) k_S_broken 0 0 20 [some (.ref 0), some (.int x1)] [] (mk w vl) post) : wp X (d + 1) k_S_broken 0 0 17 [some (.ref 0), some (.int x1)] [.int y1, .ref 0] (mk vi vl) post :=
  wr_putI (ci := 3) (k0 := 8) (idx := 47) lq_0 sq_0 (by decide) (by decide) lf_S_47 rfl (by decide +kernel) <|
  k1 _ rfl
theorem b_S_broken_20 {X : aX} {d : Nat} {post : aO} {vi : Nat → Nat → Int32} {vl : Nat → Nat → Int64} {x1 : Int32} (k1 : post (some (.int x1)) (mk vi vl)) : wp X (d + 1) k_S_broken 0 0 20 [some (.ref 0), some (.int x1)] [] (mk vi vl) post :=
  wr_iload_n (q := 1) (by decide +kernel) rfl rfl <|
  wr_ret (r := some (.int x1)) (Or.inr (Or.inl ⟨_, rfl, (by decide +kernel), (Or.inl rfl)⟩)) k1
theorem b_S_can_0 {X : aX} {d : Nat} {post : aO} {vi : Nat → Nat → Int32} {vl : Nat → Nat → Int64} {x1 : Int32} (k1 : CallOk X d 0 0 k_S_isYear [.ref 0, .int x1] (mk vi vl) (fun r N' => wp X (d + 1) k_S_can 0 0 5 [some (.ref 0), some (.int x1), none, none] (pR r []) N' post)) : wp X (d + 1) k_S_can 0 0 0 [some (.ref 0), some (.int x1), none, none] [] (mk vi vl) post :=
  wr_aload_n (q := 0) (by decide +kernel) rfl rfl <|
  wr_iload_n (q := 1) (by decide +kernel) rfl rfl <|
  wr_invV (a := 0) (ci := 3) (mid2 := 45) (idx := 121) (b1 := 0) (b2 := 0) (c1 := 0) (c2 := 0) (as := [.int x1]) (st := []) pl_45 rfl (Nat.le_of_ble_eq_true rfl) rfl rfl lq_0 sq_0 (by decide) rfl lm_S_121 im_45 is_45 (by decide +kernel) k1
theorem b_S_can_5 {X : aX} {d : Nat} {post : aO} {vi : Nat → Nat → Int32} {vl : Nat → Nat → Int64} {x1 y0 : Int32} {o2 o3 : Option Value} (k1 : ¬ y0 = 0 → wp X (d + 1) k_S_can 0 0 10 [some (.ref 0), some (.int x1), o2, o3] [] (mk vi vl) post) (k2 : y0 = 0 → wp X (d + 1) k_S_can 0 0 8 [some (.ref 0), some (.int x1), o2, o3] [] (mk vi vl) post) : wp X (d + 1) k_S_can 0 0 5 [some (.ref 0), some (.int x1), o2, o3] [.int y0] (mk vi vl) post :=
  wr_if_ne (off := 5) (t := 10) (by decide +kernel) (by decide) k1 k2
theorem b_S_can_8 {X : aX} {d : Nat} {post : aO} {vi : Nat → Nat → Int32} {vl : Nat → Nat → Int64} {x1 : Int32} {o2 o3 : Option Value} (k1 : post (some (.int (-1 : Int32))) (mk vi vl)) : wp X (d + 1) k_S_can 0 0 8 [some (.ref 0), some (.int x1), o2, o3] [] (mk vi vl) post :=
  wr_iconst (n := -1) (v := (-1 : Int32)) (by decide +kernel) (by decide) <|
  wr_ret (r := some (.int (-1 : Int32))) (Or.inr (Or.inl ⟨_, rfl, (by decide +kernel), (Or.inl rfl)⟩)) k1
theorem b_S_can_10 {X : aX} {d : Nat} {post : aO} {vi : Nat → Nat → Int32} {vl : Nat → Nat → Int64} {x1 : Int32} {o2 o3 : Option Value} (q1 : vp_in x1 5) (k1 : ¬ (vi 4 x1.toNatClampNeg) = (1 : Int32) → wp X (d + 1) k_S_can 0 0 26 [some (.ref 0), some (.int x1), o2, o3] [] (mk vi vl) post) (k2 : (vi 4 x1.toNatClampNeg) = (1 : Int32) → wp X (d + 1) k_S_can 0 0 23 [some (.ref 0), some (.int x1), o2, o3] [] (mk vi vl) post) : wp X (d + 1) k_S_can 0 0 10 [some (.ref 0), some (.int x1), o2, o3] [] (mk vi vl) post :=
  wr_aload_n (q := 0) (by decide +kernel) rfl rfl <|
  wr_getR2 (b := 3) (ci := 3) (k0 := 2) (idx := 21) lq_0 sq_0 (by decide) (by decide) lf_S_21 rfl vq_0_2 lq_3 (by decide +kernel) <|
  wr_getR2 (b := 4) (ci := 0) (k0 := 1) (idx := 179) lq_3 sq_3 (by decide) (by decide) lf_S_179 rfl vq_3_1 lq_4 (by decide +kernel) <|
  wr_iload_n (q := 1) (by decide +kernel) rfl rfl <|
  wr_iald lq_4 sq_4 q1 (by decide +kernel) <|
  wr_iconst (n := 1) (v := (1 : Int32)) (by decide +kernel) (by decide) <|
  wr_icmp_ne (off := 6) (t := 26) (by decide +kernel) (by decide) k1 k2
theorem b_S_can_23 {X : aX} {d : Nat} {post : aO} {vi : Nat → Nat → Int32} {vl : Nat → Nat → Int64} {x1 : Int32} {o2 o3 : Option Value} (k1 : post (some (.int (-4 : Int32))) (mk vi vl)) : wp X (d + 1) k_S_can 0 0 23 [some (.ref 0), some (.int x1), o2, o3] [] (mk vi vl) post :=
  wr_bipush (n := -4) (v := (-4 : Int32)) (by decide +kernel) (by decide) <|
  wr_ret (r := some (.int (-4 : Int32))) (Or.inr (Or.inl ⟨_, rfl, (by decide +kernel), (Or.inl rfl)⟩)) k1
theorem b_S_can_26 {X : aX} {d : Nat} {post : aO} {vi : Nat → Nat → Int32} {vl : Nat → Nat → Int64} {x1 : Int32} {o2 o3 : Option Value} (k1 : CallOk X d 0 0 k_C_take [.ref 14, .ref 3] (mk vi vl) (fun r N' => wp X (d + 1) k_S_can 0 0 37 [some (.ref 0), some (.int x1), o2, o3] (pR r []) N' post)) : wp X (d + 1) k_S_can 0 0 26 [some (.ref 0), some (.int x1), o2, o3] [] (mk vi vl) post :=
  wr_aload_n (q := 0) (by decide +kernel) rfl rfl <|
  wr_getR2 (b := 14) (ci := 3) (k0 := 3) (idx := 25) lq_0 sq_0 (by decide) (by decide) lf_S_25 rfl vq_0_3 lq_14 (by decide +kernel) <|
  wr_aload_n (q := 0) (by decide +kernel) rfl rfl <|
  wr_getR2 (b := 3) (ci := 3) (k0 := 2) (idx := 21) lq_0 sq_0 (by decide) (by decide) lf_S_21 rfl vq_0_2 lq_3 (by decide +kernel) <|
  wr_invV (a := 14) (ci := 0) (mid2 := 38) (idx := 108) (b1 := 0) (b2 := 0) (c1 := 0) (c2 := 0) (as := [.ref 3]) (st := []) pl_38 rfl (Nat.le_of_ble_eq_true rfl) rfl rfl lq_14 sq_14 (by decide) rfl lm_S_108 im_38 is_38 (by decide +kernel) k1
theorem b_S_can_37 {X : aX} {d : Nat} {post : aO} {vi : Nat → Nat → Int32} {vl : Nat → Nat → Int64} {x1 : Int32} {o2 o3 : Option Value} (k1 : wp X (d + 1) k_S_can 0 0 41 [some (.ref 0), some (.int x1), some (.int (0 : Int32)), some (.int (0 : Int32))] [] (mk vi vl) post) : wp X (d + 1) k_S_can 0 0 37 [some (.ref 0), some (.int x1), o2, o3] [] (mk vi vl) post :=
  wr_iconst (n := 0) (v := (0 : Int32)) (by decide +kernel) (by decide) <|
  wr_istore_n (q := 2) (by decide +kernel) rfl (by decide) <|
  wr_iconst (n := 0) (v := (0 : Int32)) (by decide +kernel) (by decide) <|
  wr_istore_n (q := 3) (by decide +kernel) rfl (by decide) <|
  k1
theorem b_S_can_41 {X : aX} {d : Nat} {post : aO} {vi : Nat → Nat → Int32} {vl : Nat → Nat → Int64} {x1 x2 x3 : Int32} (k1 : (5 : Int32) ≤ x3 → wp X (d + 1) k_S_can 0 0 86 [some (.ref 0), some (.int x1), some (.int x2), some (.int x3)] [] (mk vi vl) post) (k2 : ¬ (5 : Int32) ≤ x3 → wp X (d + 1) k_S_can 0 0 46 [some (.ref 0), some (.int x1), some (.int x2), some (.int x3)] [] (mk vi vl) post) : wp X (d + 1) k_S_can 0 0 41 [some (.ref 0), some (.int x1), some (.int x2), some (.int x3)] [] (mk vi vl) post :=
  wr_iload_n (q := 3) (by decide +kernel) rfl rfl <|
  wr_iconst (n := 5) (v := (5 : Int32)) (by decide +kernel) (by decide) <|
  wr_icmp_ge (off := 43) (t := 86) (by decide +kernel) (by decide) k1 k2
theorem b_S_can_46 {X : aX} {d : Nat} {post : aO} {vi : Nat → Nat → Int32} {vl : Nat → Nat → Int64} {x1 x2 x3 : Int32} (k1 : CallOk X d 0 0 k_C_set [.ref 14, .int x1, .int (1 : Int32), .int x3] (mk vi vl) (fun r N' => wp X (d + 1) k_S_can 0 0 56 [some (.ref 0), some (.int x1), some (.int x2), some (.int x3)] (pR r []) N' post)) : wp X (d + 1) k_S_can 0 0 46 [some (.ref 0), some (.int x1), some (.int x2), some (.int x3)] [] (mk vi vl) post :=
  wr_aload_n (q := 0) (by decide +kernel) rfl rfl <|
  wr_getR2 (b := 14) (ci := 3) (k0 := 3) (idx := 25) lq_0 sq_0 (by decide) (by decide) lf_S_25 rfl vq_0_3 lq_14 (by decide +kernel) <|
  wr_iload_n (q := 1) (by decide +kernel) rfl rfl <|
  wr_iconst (n := 1) (v := (1 : Int32)) (by decide +kernel) (by decide) <|
  wr_iload_n (q := 3) (by decide +kernel) rfl rfl <|
  wr_invV (a := 14) (ci := 0) (mid2 := 33) (idx := 182) (b1 := 0) (b2 := 0) (c1 := 0) (c2 := 0) (as := [.int x1, .int (1 : Int32), .int x3]) (st := []) pl_33 rfl (Nat.le_of_ble_eq_true rfl) rfl rfl lq_14 sq_14 (by decide) rfl lm_S_182 im_33 is_33 (by decide +kernel) k1
theorem b_S_can_56 {X : aX} {d : Nat} {post : aO} {vi : Nat → Nat → Int32} {vl : Nat → Nat → Int64} {x1 x2 x3 : Int32} (k1 : CallOk X d 0 0 k_C_settleFrom [.ref 14, .int (0 : Int32)] (mk vi vl) (fun r N' => wp X (d + 1) k_S_can 0 0 64 [some (.ref 0), some (.int x1), some (.int x2), some (.int x3)] (pR r []) N' post)) : wp X (d + 1) k_S_can 0 0 56 [some (.ref 0), some (.int x1), some (.int x2), some (.int x3)] [] (mk vi vl) post :=
  wr_aload_n (q := 0) (by decide +kernel) rfl rfl <|
  wr_getR2 (b := 14) (ci := 3) (k0 := 3) (idx := 25) lq_0 sq_0 (by decide) (by decide) lf_S_25 rfl vq_0_3 lq_14 (by decide +kernel) <|
  wr_iconst (n := 0) (v := (0 : Int32)) (by decide +kernel) (by decide) <|
  wr_invV (a := 14) (ci := 0) (mid2 := 39) (idx := 112) (b1 := 0) (b2 := 0) (c1 := 0) (c2 := 0) (as := [.int (0 : Int32)]) (st := []) pl_39 rfl (Nat.le_of_ble_eq_true rfl) rfl rfl lq_14 sq_14 (by decide) rfl lm_S_112 im_39 is_39 (by decide +kernel) k1
theorem b_S_can_64 {X : aX} {d : Nat} {post : aO} {vi : Nat → Nat → Int32} {vl : Nat → Nat → Int64} {x1 x2 x3 : Int32} (k1 : CallOk X d 0 0 k_C_brokenLaws [.ref 14] (mk vi vl) (fun r N' => wp X (d + 1) k_S_can 0 0 71 [some (.ref 0), some (.int x1), some (.int x2), some (.int x3)] (pR r []) N' post)) : wp X (d + 1) k_S_can 0 0 64 [some (.ref 0), some (.int x1), some (.int x2), some (.int x3)] [] (mk vi vl) post :=
  wr_aload_n (q := 0) (by decide +kernel) rfl rfl <|
  wr_getR2 (b := 14) (ci := 3) (k0 := 3) (idx := 25) lq_0 sq_0 (by decide) (by decide) lf_S_25 rfl vq_0_3 lq_14 (by decide +kernel) <|
  wr_invV (a := 14) (ci := 0) (mid2 := 63) (idx := 172) (b1 := 0) (b2 := 0) (c1 := 0) (c2 := 0) (as := []) (st := []) pl_63 rfl (Nat.le_of_ble_eq_true rfl) rfl rfl lq_14 sq_14 (by decide) rfl lm_S_172 im_63 is_63 (by decide +kernel) k1
theorem b_S_can_71 {X : aX} {d : Nat} {post : aO} {vi : Nat → Nat → Int32} {vl : Nat → Nat → Int64} {x1 x2 x3 y0 : Int32} (k1 : ¬ y0 = 0 → wp X (d + 1) k_S_can 0 0 80 [some (.ref 0), some (.int x1), some (.int x2), some (.int x3)] [] (mk vi vl) post) (k2 : y0 = 0 → wp X (d + 1) k_S_can 0 0 74 [some (.ref 0), some (.int x1), some (.int x2), some (.int x3)] [] (mk vi vl) post) : wp X (d + 1) k_S_can 0 0 71 [some (.ref 0), some (.int x1), some (.int x2), some (.int x3)] [.int y0] (mk vi vl) post :=
  wr_if_ne (off := 9) (t := 80) (by decide +kernel) (by decide) k1 k2
theorem b_S_can_74 {X : aX} {d : Nat} {post : aO} {vi : Nat → Nat → Int32} {vl : Nat → Nat → Int64} {x1 x2 x3 : Int32} (k1 : wp X (d + 1) k_S_can 0 0 80 [some (.ref 0), some (.int x1), some (.int (x2 ||| ((1 : Int32) <<< (x3 &&& 31)))), some (.int x3)] [] (mk vi vl) post) : wp X (d + 1) k_S_can 0 0 74 [some (.ref 0), some (.int x1), some (.int x2), some (.int x3)] [] (mk vi vl) post :=
  wr_iload_n (q := 2) (by decide +kernel) rfl rfl <|
  wr_iconst (n := 1) (v := (1 : Int32)) (by decide +kernel) (by decide) <|
  wr_iload_n (q := 3) (by decide +kernel) rfl rfl <|
  wr_ishl (by decide +kernel) <|
  wr_ior (by decide +kernel) <|
  wr_istore_n (q := 2) (by decide +kernel) rfl (by decide) <|
  k1
theorem b_S_can_80 {X : aX} {d : Nat} {post : aO} {vi : Nat → Nat → Int32} {vl : Nat → Nat → Int64} {x1 x2 x3 : Int32} (k1 : wp X (d + 1) k_S_can 0 0 41 [some (.ref 0), some (.int x1), some (.int x2), some (.int (x3 + (1 : Int32)))] [] (mk vi vl) post) : wp X (d + 1) k_S_can 0 0 80 [some (.ref 0), some (.int x1), some (.int x2), some (.int x3)] [] (mk vi vl) post :=
  wr_iinc (i := 3) (n := 1) (v := (1 : Int32)) (by decide +kernel) rfl (by decide) (by decide) <|
  wr_goto (off := -42) (t := 41) (by decide +kernel) (by decide) k1
theorem b_S_can_86 {X : aX} {d : Nat} {post : aO} {vi : Nat → Nat → Int32} {vl : Nat → Nat → Int64} {x1 x2 x3 : Int32} (k1 : post (some (.int x2)) (mk vi vl)) : wp X (d + 1) k_S_can 0 0 86 [some (.ref 0), some (.int x1), some (.int x2), some (.int x3)] [] (mk vi vl) post :=
  wr_iload_n (q := 2) (by decide +kernel) rfl rfl <|
  wr_ret (r := some (.int x2)) (Or.inr (Or.inl ⟨_, rfl, (by decide +kernel), (Or.inl rfl)⟩)) k1
theorem b_S_safe_0 {X : aX} {d : Nat} {post : aO} {vi : Nat → Nat → Int32} {vl : Nat → Nat → Int64} {x1 : Int32} (k1 : CallOk X d 0 0 k_S_isYear [.ref 0, .int x1] (mk vi vl) (fun r N' => wp X (d + 1) k_S_safe 0 0 5 [some (.ref 0), some (.int x1), none, none] (pR r []) N' post)) : wp X (d + 1) k_S_safe 0 0 0 [some (.ref 0), some (.int x1), none, none] [] (mk vi vl) post :=
  wr_aload_n (q := 0) (by decide +kernel) rfl rfl <|
  wr_iload_n (q := 1) (by decide +kernel) rfl rfl <|
  wr_invV (a := 0) (ci := 3) (mid2 := 45) (idx := 121) (b1 := 0) (b2 := 0) (c1 := 0) (c2 := 0) (as := [.int x1]) (st := []) pl_45 rfl (Nat.le_of_ble_eq_true rfl) rfl rfl lq_0 sq_0 (by decide) rfl lm_S_121 im_45 is_45 (by decide +kernel) k1
theorem b_S_safe_5 {X : aX} {d : Nat} {post : aO} {vi : Nat → Nat → Int32} {vl : Nat → Nat → Int64} {x1 y0 : Int32} {o2 o3 : Option Value} (k1 : y0 = 0 → wp X (d + 1) k_S_safe 0 0 21 [some (.ref 0), some (.int x1), o2, o3] [] (mk vi vl) post) (k2 : ¬ y0 = 0 → wp X (d + 1) k_S_safe 0 0 8 [some (.ref 0), some (.int x1), o2, o3] [] (mk vi vl) post) : wp X (d + 1) k_S_safe 0 0 5 [some (.ref 0), some (.int x1), o2, o3] [.int y0] (mk vi vl) post :=
  wr_if_eq (off := 16) (t := 21) (by decide +kernel) (by decide) k1 k2
theorem b_S_safe_8 {X : aX} {d : Nat} {post : aO} {vi : Nat → Nat → Int32} {vl : Nat → Nat → Int64} {x1 : Int32} {o2 o3 : Option Value} (k1 : ¬ x1 = ((vi 3 0) - (1 : Int32)) → wp X (d + 1) k_S_safe 0 0 23 [some (.ref 0), some (.int x1), o2, o3] [] (mk vi vl) post) (k2 : x1 = ((vi 3 0) - (1 : Int32)) → wp X (d + 1) k_S_safe 0 0 21 [some (.ref 0), some (.int x1), o2, o3] [] (mk vi vl) post) : wp X (d + 1) k_S_safe 0 0 8 [some (.ref 0), some (.int x1), o2, o3] [] (mk vi vl) post :=
  wr_iload_n (q := 1) (by decide +kernel) rfl rfl <|
  wr_aload_n (q := 0) (by decide +kernel) rfl rfl <|
  wr_getR2 (b := 3) (ci := 3) (k0 := 2) (idx := 21) lq_0 sq_0 (by decide) (by decide) lf_S_21 rfl vq_0_2 lq_3 (by decide +kernel) <|
  wr_getI (ci := 0) (k0 := 0) (idx := 118) lq_3 sq_3 (by decide) (by decide) lf_S_118 (Or.inl rfl) (by decide +kernel) <|
  wr_iconst (n := 1) (v := (1 : Int32)) (by decide +kernel) (by decide) <|
  wr_isub (by decide +kernel) <|
  wr_icmp_ne (off := 5) (t := 23) (by decide +kernel) (by decide) k1 k2
theorem b_S_safe_21 {X : aX} {d : Nat} {post : aO} {vi : Nat → Nat → Int32} {vl : Nat → Nat → Int64} {x1 : Int32} {o2 o3 : Option Value} (k1 : post (some (.int (-1 : Int32))) (mk vi vl)) : wp X (d + 1) k_S_safe 0 0 21 [some (.ref 0), some (.int x1), o2, o3] [] (mk vi vl) post :=
  wr_iconst (n := -1) (v := (-1 : Int32)) (by decide +kernel) (by decide) <|
  wr_ret (r := some (.int (-1 : Int32))) (Or.inr (Or.inl ⟨_, rfl, (by decide +kernel), (Or.inl rfl)⟩)) k1
theorem b_S_safe_23 {X : aX} {d : Nat} {post : aO} {vi : Nat → Nat → Int32} {vl : Nat → Nat → Int64} {x1 : Int32} {o2 o3 : Option Value} (k1 : CallOk X d 0 0 k_C_take [.ref 14, .ref 3] (mk vi vl) (fun r N' => wp X (d + 1) k_S_safe 0 0 34 [some (.ref 0), some (.int x1), o2, o3] (pR r []) N' post)) : wp X (d + 1) k_S_safe 0 0 23 [some (.ref 0), some (.int x1), o2, o3] [] (mk vi vl) post :=
  wr_aload_n (q := 0) (by decide +kernel) rfl rfl <|
  wr_getR2 (b := 14) (ci := 3) (k0 := 3) (idx := 25) lq_0 sq_0 (by decide) (by decide) lf_S_25 rfl vq_0_3 lq_14 (by decide +kernel) <|
  wr_aload_n (q := 0) (by decide +kernel) rfl rfl <|
  wr_getR2 (b := 3) (ci := 3) (k0 := 2) (idx := 21) lq_0 sq_0 (by decide) (by decide) lf_S_21 rfl vq_0_2 lq_3 (by decide +kernel) <|
  wr_invV (a := 14) (ci := 0) (mid2 := 38) (idx := 108) (b1 := 0) (b2 := 0) (c1 := 0) (c2 := 0) (as := [.ref 3]) (st := []) pl_38 rfl (Nat.le_of_ble_eq_true rfl) rfl rfl lq_14 sq_14 (by decide) rfl lm_S_108 im_38 is_38 (by decide +kernel) k1
theorem b_S_safe_34 {X : aX} {d : Nat} {post : aO} {vi : Nat → Nat → Int32} {vl : Nat → Nat → Int64} {x1 : Int32} {o2 o3 : Option Value} (k1 : wp X (d + 1) k_S_safe 0 0 38 [some (.ref 0), some (.int x1), some (.int (0 : Int32)), some (.int (0 : Int32))] [] (mk vi vl) post) : wp X (d + 1) k_S_safe 0 0 34 [some (.ref 0), some (.int x1), o2, o3] [] (mk vi vl) post :=
  wr_iconst (n := 0) (v := (0 : Int32)) (by decide +kernel) (by decide) <|
  wr_istore_n (q := 2) (by decide +kernel) rfl (by decide) <|
  wr_iconst (n := 0) (v := (0 : Int32)) (by decide +kernel) (by decide) <|
  wr_istore_n (q := 3) (by decide +kernel) rfl (by decide) <|
  k1
theorem b_S_safe_38 {X : aX} {d : Nat} {post : aO} {vi : Nat → Nat → Int32} {vl : Nat → Nat → Int64} {x1 x2 x3 : Int32} (k1 : (5 : Int32) ≤ x3 → wp X (d + 1) k_S_safe 0 0 75 [some (.ref 0), some (.int x1), some (.int x2), some (.int x3)] [] (mk vi vl) post) (k2 : ¬ (5 : Int32) ≤ x3 → wp X (d + 1) k_S_safe 0 0 43 [some (.ref 0), some (.int x1), some (.int x2), some (.int x3)] [] (mk vi vl) post) : wp X (d + 1) k_S_safe 0 0 38 [some (.ref 0), some (.int x1), some (.int x2), some (.int x3)] [] (mk vi vl) post :=
  wr_iload_n (q := 3) (by decide +kernel) rfl rfl <|
  wr_iconst (n := 5) (v := (5 : Int32)) (by decide +kernel) (by decide) <|
  wr_icmp_ge (off := 35) (t := 75) (by decide +kernel) (by decide) k1 k2
theorem b_S_safe_43 {X : aX} {d : Nat} {post : aO} {vi : Nat → Nat → Int32} {vl : Nat → Nat → Int64} {x1 x2 x3 : Int32} (k1 : CallOk X d 0 0 k_C_set [.ref 14, .int x1, .int (1 : Int32), .int x3] (mk vi vl) (fun r N' => wp X (d + 1) k_S_safe 0 0 53 [some (.ref 0), some (.int x1), some (.int x2), some (.int x3)] (pR r []) N' post)) : wp X (d + 1) k_S_safe 0 0 43 [some (.ref 0), some (.int x1), some (.int x2), some (.int x3)] [] (mk vi vl) post :=
  wr_aload_n (q := 0) (by decide +kernel) rfl rfl <|
  wr_getR2 (b := 14) (ci := 3) (k0 := 3) (idx := 25) lq_0 sq_0 (by decide) (by decide) lf_S_25 rfl vq_0_3 lq_14 (by decide +kernel) <|
  wr_iload_n (q := 1) (by decide +kernel) rfl rfl <|
  wr_iconst (n := 1) (v := (1 : Int32)) (by decide +kernel) (by decide) <|
  wr_iload_n (q := 3) (by decide +kernel) rfl rfl <|
  wr_invV (a := 14) (ci := 0) (mid2 := 33) (idx := 182) (b1 := 0) (b2 := 0) (c1 := 0) (c2 := 0) (as := [.int x1, .int (1 : Int32), .int x3]) (st := []) pl_33 rfl (Nat.le_of_ble_eq_true rfl) rfl rfl lq_14 sq_14 (by decide) rfl lm_S_182 im_33 is_33 (by decide +kernel) k1
theorem b_S_safe_53 {X : aX} {d : Nat} {post : aO} {vi : Nat → Nat → Int32} {vl : Nat → Nat → Int64} {x1 x2 x3 : Int32} (k1 : CallOk X d 0 0 k_S_isWholeWhateverIsSewn [.ref 0, .int (x1 + (1 : Int32))] (mk vi vl) (fun r N' => wp X (d + 1) k_S_safe 0 0 60 [some (.ref 0), some (.int x1), some (.int x2), some (.int x3)] (pR r []) N' post)) : wp X (d + 1) k_S_safe 0 0 53 [some (.ref 0), some (.int x1), some (.int x2), some (.int x3)] [] (mk vi vl) post :=
  wr_aload_n (q := 0) (by decide +kernel) rfl rfl <|
  wr_iload_n (q := 1) (by decide +kernel) rfl rfl <|
  wr_iconst (n := 1) (v := (1 : Int32)) (by decide +kernel) (by decide) <|
  wr_iadd (by decide +kernel) <|
  wr_invV (a := 0) (ci := 3) (mid2 := 77) (idx := 186) (b1 := 0) (b2 := 0) (c1 := 0) (c2 := 0) (as := [.int (x1 + (1 : Int32))]) (st := []) pl_77 rfl (Nat.le_of_ble_eq_true rfl) rfl rfl lq_0 sq_0 (by decide) rfl lm_S_186 im_77 is_77 (by decide +kernel) k1
theorem b_S_safe_60 {X : aX} {d : Nat} {post : aO} {vi : Nat → Nat → Int32} {vl : Nat → Nat → Int64} {x1 x2 x3 y0 : Int32} (k1 : y0 = 0 → wp X (d + 1) k_S_safe 0 0 69 [some (.ref 0), some (.int x1), some (.int x2), some (.int x3)] [] (mk vi vl) post) (k2 : ¬ y0 = 0 → wp X (d + 1) k_S_safe 0 0 63 [some (.ref 0), some (.int x1), some (.int x2), some (.int x3)] [] (mk vi vl) post) : wp X (d + 1) k_S_safe 0 0 60 [some (.ref 0), some (.int x1), some (.int x2), some (.int x3)] [.int y0] (mk vi vl) post :=
  wr_if_eq (off := 9) (t := 69) (by decide +kernel) (by decide) k1 k2
theorem b_S_safe_63 {X : aX} {d : Nat} {post : aO} {vi : Nat → Nat → Int32} {vl : Nat → Nat → Int64} {x1 x2 x3 : Int32} (k1 : wp X (d + 1) k_S_safe 0 0 69 [some (.ref 0), some (.int x1), some (.int (x2 ||| ((1 : Int32) <<< (x3 &&& 31)))), some (.int x3)] [] (mk vi vl) post) : wp X (d + 1) k_S_safe 0 0 63 [some (.ref 0), some (.int x1), some (.int x2), some (.int x3)] [] (mk vi vl) post :=
  wr_iload_n (q := 2) (by decide +kernel) rfl rfl <|
  wr_iconst (n := 1) (v := (1 : Int32)) (by decide +kernel) (by decide) <|
  wr_iload_n (q := 3) (by decide +kernel) rfl rfl <|
  wr_ishl (by decide +kernel) <|
  wr_ior (by decide +kernel) <|
  wr_istore_n (q := 2) (by decide +kernel) rfl (by decide) <|
  k1
theorem b_S_safe_69 {X : aX} {d : Nat} {post : aO} {vi : Nat → Nat → Int32} {vl : Nat → Nat → Int64} {x1 x2 x3 : Int32} (k1 : wp X (d + 1) k_S_safe 0 0 38 [some (.ref 0), some (.int x1), some (.int x2), some (.int (x3 + (1 : Int32)))] [] (mk vi vl) post) : wp X (d + 1) k_S_safe 0 0 69 [some (.ref 0), some (.int x1), some (.int x2), some (.int x3)] [] (mk vi vl) post :=
  wr_iinc (i := 3) (n := 1) (v := (1 : Int32)) (by decide +kernel) rfl (by decide) (by decide) <|
  wr_goto (off := -34) (t := 38) (by decide +kernel) (by decide) k1
theorem b_S_safe_75 {X : aX} {d : Nat} {post : aO} {vi : Nat → Nat → Int32} {vl : Nat → Nat → Int64} {x1 x2 x3 : Int32} (k1 : post (some (.int x2)) (mk vi vl)) : wp X (d + 1) k_S_safe 0 0 75 [some (.ref 0), some (.int x1), some (.int x2), some (.int x3)] [] (mk vi vl) post :=
  wr_iload_n (q := 2) (by decide +kernel) rfl rfl <|
  wr_ret (r := some (.int x2)) (Or.inr (Or.inl ⟨_, rfl, (by decide +kernel), (Or.inl rfl)⟩)) k1
theorem b_S_isWholeWhateverIsSewn_0 {X : aX} {d : Nat} {post : aO} {vi : Nat → Nat → Int32} {vl : Nat → Nat → Int64} {x1 : Int32} (k1 : wp X (d + 1) k_S_isWholeWhateverIsSewn 0 0 2 [some (.ref 0), some (.int x1), some (.int (0 : Int32))] [] (mk vi vl) post) : wp X (d + 1) k_S_isWholeWhateverIsSewn 0 0 0 [some (.ref 0), some (.int x1), none] [] (mk vi vl) post :=
  wr_iconst (n := 0) (v := (0 : Int32)) (by decide +kernel) (by decide) <|
  wr_istore_n (q := 2) (by decide +kernel) rfl (by decide) <|
  k1
theorem b_S_isWholeWhateverIsSewn_2 {X : aX} {d : Nat} {post : aO} {vi : Nat → Nat → Int32} {vl : Nat → Nat → Int64} {x1 x2 : Int32} (k1 : (5 : Int32) ≤ x2 → wp X (d + 1) k_S_isWholeWhateverIsSewn 0 0 43 [some (.ref 0), some (.int x1), some (.int x2)] [] (mk vi vl) post) (k2 : ¬ (5 : Int32) ≤ x2 → wp X (d + 1) k_S_isWholeWhateverIsSewn 0 0 7 [some (.ref 0), some (.int x1), some (.int x2)] [] (mk vi vl) post) : wp X (d + 1) k_S_isWholeWhateverIsSewn 0 0 2 [some (.ref 0), some (.int x1), some (.int x2)] [] (mk vi vl) post :=
  wr_iload_n (q := 2) (by decide +kernel) rfl rfl <|
  wr_iconst (n := 5) (v := (5 : Int32)) (by decide +kernel) (by decide) <|
  wr_icmp_ge (off := 39) (t := 43) (by decide +kernel) (by decide) k1 k2
theorem b_S_isWholeWhateverIsSewn_7 {X : aX} {d : Nat} {post : aO} {vi : Nat → Nat → Int32} {vl : Nat → Nat → Int64} {x1 x2 : Int32} (k1 : CallOk X d 0 0 k_C_set [.ref 14, .int x1, .int (1 : Int32), .int x2] (mk vi vl) (fun r N' => wp X (d + 1) k_S_isWholeWhateverIsSewn 0 0 17 [some (.ref 0), some (.int x1), some (.int x2)] (pR r []) N' post)) : wp X (d + 1) k_S_isWholeWhateverIsSewn 0 0 7 [some (.ref 0), some (.int x1), some (.int x2)] [] (mk vi vl) post :=
  wr_aload_n (q := 0) (by decide +kernel) rfl rfl <|
  wr_getR2 (b := 14) (ci := 3) (k0 := 3) (idx := 25) lq_0 sq_0 (by decide) (by decide) lf_S_25 rfl vq_0_3 lq_14 (by decide +kernel) <|
  wr_iload_n (q := 1) (by decide +kernel) rfl rfl <|
  wr_iconst (n := 1) (v := (1 : Int32)) (by decide +kernel) (by decide) <|
  wr_iload_n (q := 2) (by decide +kernel) rfl rfl <|
  wr_invV (a := 14) (ci := 0) (mid2 := 33) (idx := 182) (b1 := 0) (b2 := 0) (c1 := 0) (c2 := 0) (as := [.int x1, .int (1 : Int32), .int x2]) (st := []) pl_33 rfl (Nat.le_of_ble_eq_true rfl) rfl rfl lq_14 sq_14 (by decide) rfl lm_S_182 im_33 is_33 (by decide +kernel) k1
theorem b_S_isWholeWhateverIsSewn_17 {X : aX} {d : Nat} {post : aO} {vi : Nat → Nat → Int32} {vl : Nat → Nat → Int64} {x1 x2 : Int32} (k1 : CallOk X d 0 0 k_C_settleFrom [.ref 14, .int (0 : Int32)] (mk vi vl) (fun r N' => wp X (d + 1) k_S_isWholeWhateverIsSewn 0 0 25 [some (.ref 0), some (.int x1), some (.int x2)] (pR r []) N' post)) : wp X (d + 1) k_S_isWholeWhateverIsSewn 0 0 17 [some (.ref 0), some (.int x1), some (.int x2)] [] (mk vi vl) post :=
  wr_aload_n (q := 0) (by decide +kernel) rfl rfl <|
  wr_getR2 (b := 14) (ci := 3) (k0 := 3) (idx := 25) lq_0 sq_0 (by decide) (by decide) lf_S_25 rfl vq_0_3 lq_14 (by decide +kernel) <|
  wr_iconst (n := 0) (v := (0 : Int32)) (by decide +kernel) (by decide) <|
  wr_invV (a := 14) (ci := 0) (mid2 := 39) (idx := 112) (b1 := 0) (b2 := 0) (c1 := 0) (c2 := 0) (as := [.int (0 : Int32)]) (st := []) pl_39 rfl (Nat.le_of_ble_eq_true rfl) rfl rfl lq_14 sq_14 (by decide) rfl lm_S_112 im_39 is_39 (by decide +kernel) k1
theorem b_S_isWholeWhateverIsSewn_25 {X : aX} {d : Nat} {post : aO} {vi : Nat → Nat → Int32} {vl : Nat → Nat → Int64} {x1 x2 : Int32} (k1 : CallOk X d 0 0 k_C_brokenLaws [.ref 14] (mk vi vl) (fun r N' => wp X (d + 1) k_S_isWholeWhateverIsSewn 0 0 32 [some (.ref 0), some (.int x1), some (.int x2)] (pR r []) N' post)) : wp X (d + 1) k_S_isWholeWhateverIsSewn 0 0 25 [some (.ref 0), some (.int x1), some (.int x2)] [] (mk vi vl) post :=
  wr_aload_n (q := 0) (by decide +kernel) rfl rfl <|
  wr_getR2 (b := 14) (ci := 3) (k0 := 3) (idx := 25) lq_0 sq_0 (by decide) (by decide) lf_S_25 rfl vq_0_3 lq_14 (by decide +kernel) <|
  wr_invV (a := 14) (ci := 0) (mid2 := 63) (idx := 172) (b1 := 0) (b2 := 0) (c1 := 0) (c2 := 0) (as := []) (st := []) pl_63 rfl (Nat.le_of_ble_eq_true rfl) rfl rfl lq_14 sq_14 (by decide) rfl lm_S_172 im_63 is_63 (by decide +kernel) k1
theorem b_S_isWholeWhateverIsSewn_32 {X : aX} {d : Nat} {post : aO} {vi : Nat → Nat → Int32} {vl : Nat → Nat → Int64} {x1 x2 y0 : Int32} (k1 : y0 = 0 → wp X (d + 1) k_S_isWholeWhateverIsSewn 0 0 37 [some (.ref 0), some (.int x1), some (.int x2)] [] (mk vi vl) post) (k2 : ¬ y0 = 0 → wp X (d + 1) k_S_isWholeWhateverIsSewn 0 0 35 [some (.ref 0), some (.int x1), some (.int x2)] [] (mk vi vl) post) : wp X (d + 1) k_S_isWholeWhateverIsSewn 0 0 32 [some (.ref 0), some (.int x1), some (.int x2)] [.int y0] (mk vi vl) post :=
  wr_if_eq (off := 5) (t := 37) (by decide +kernel) (by decide) k1 k2
theorem b_S_isWholeWhateverIsSewn_35 {X : aX} {d : Nat} {post : aO} {vi : Nat → Nat → Int32} {vl : Nat → Nat → Int64} {x1 x2 : Int32} (k1 : post (some (.int (0 : Int32))) (mk vi vl)) : wp X (d + 1) k_S_isWholeWhateverIsSewn 0 0 35 [some (.ref 0), some (.int x1), some (.int x2)] [] (mk vi vl) post :=
  wr_iconst (n := 0) (v := (0 : Int32)) (by decide +kernel) (by decide) <|
  wr_ret (r := some (.int (0 : Int32))) (Or.inr (Or.inl ⟨_, rfl, (by decide +kernel), (Or.inr ⟨rfl, (by decide)⟩)⟩)) k1
theorem b_S_isWholeWhateverIsSewn_37 {X : aX} {d : Nat} {post : aO} {vi : Nat → Nat → Int32} {vl : Nat → Nat → Int64} {x1 x2 : Int32} (k1 : wp X (d + 1) k_S_isWholeWhateverIsSewn 0 0 2 [some (.ref 0), some (.int x1), some (.int (x2 + (1 : Int32)))] [] (mk vi vl) post) : wp X (d + 1) k_S_isWholeWhateverIsSewn 0 0 37 [some (.ref 0), some (.int x1), some (.int x2)] [] (mk vi vl) post :=
  wr_iinc (i := 2) (n := 1) (v := (1 : Int32)) (by decide +kernel) rfl (by decide) (by decide) <|
  wr_goto (off := -38) (t := 2) (by decide +kernel) (by decide) k1
theorem b_S_isWholeWhateverIsSewn_43 {X : aX} {d : Nat} {post : aO} {vi : Nat → Nat → Int32} {vl : Nat → Nat → Int64} {x1 x2 : Int32} (k1 : post (some (.int (1 : Int32))) (mk vi vl)) : wp X (d + 1) k_S_isWholeWhateverIsSewn 0 0 43 [some (.ref 0), some (.int x1), some (.int x2)] [] (mk vi vl) post :=
  wr_iconst (n := 1) (v := (1 : Int32)) (by decide +kernel) (by decide) <|
  wr_ret (r := some (.int (1 : Int32))) (Or.inr (Or.inl ⟨_, rfl, (by decide +kernel), (Or.inr ⟨rfl, (by decide)⟩)⟩)) k1
theorem b_S_least_0 {X : aX} {d : Nat} {post : aO} {vi : Nat → Nat → Int32} {vl : Nat → Nat → Int64} {x1 x2 x3 : Int32} (k1 : CallOk X d 0 0 k_S_isScene [.int x1] (mk vi vl) (fun r N' => wp X (d + 1) k_S_least 0 0 4 [some (.ref 0), some (.int x1), some (.int x2), some (.int x3)] (pR r []) N' post)) : wp X (d + 1) k_S_least 0 0 0 [some (.ref 0), some (.int x1), some (.int x2), some (.int x3)] [] (mk vi vl) post :=
  wr_iload_n (q := 1) (by decide +kernel) rfl rfl <|
  wr_invS (mid2 := 31) (idx := 154) (b1 := 0) (b2 := 0) (c1 := 0) (c2 := 0) (as := [.int x1]) (st := []) pl_31 rfl (Nat.le_of_ble_eq_true rfl) rfl rfl lm_S_154 it_31 (by decide +kernel) k1
theorem b_S_least_4 {X : aX} {d : Nat} {post : aO} {vi : Nat → Nat → Int32} {vl : Nat → Nat → Int64} {x1 x2 x3 y0 : Int32} (k1 : y0 = 0 → wp X (d + 1) k_S_least 0 0 22 [some (.ref 0), some (.int x1), some (.int x2), some (.int x3)] [] (mk vi vl) post) (k2 : ¬ y0 = 0 → wp X (d + 1) k_S_least 0 0 7 [some (.ref 0), some (.int x1), some (.int x2), some (.int x3)] [] (mk vi vl) post) : wp X (d + 1) k_S_least 0 0 4 [some (.ref 0), some (.int x1), some (.int x2), some (.int x3)] [.int y0] (mk vi vl) post :=
  wr_if_eq (off := 18) (t := 22) (by decide +kernel) (by decide) k1 k2
theorem b_S_least_7 {X : aX} {d : Nat} {post : aO} {vi : Nat → Nat → Int32} {vl : Nat → Nat → Int64} {x1 x2 x3 : Int32} (k1 : CallOk X d 0 0 k_S_isYear [.ref 0, .int x2] (mk vi vl) (fun r N' => wp X (d + 1) k_S_least 0 0 12 [some (.ref 0), some (.int x1), some (.int x2), some (.int x3)] (pR r []) N' post)) : wp X (d + 1) k_S_least 0 0 7 [some (.ref 0), some (.int x1), some (.int x2), some (.int x3)] [] (mk vi vl) post :=
  wr_aload_n (q := 0) (by decide +kernel) rfl rfl <|
  wr_iload_n (q := 2) (by decide +kernel) rfl rfl <|
  wr_invV (a := 0) (ci := 3) (mid2 := 45) (idx := 121) (b1 := 0) (b2 := 0) (c1 := 0) (c2 := 0) (as := [.int x2]) (st := []) pl_45 rfl (Nat.le_of_ble_eq_true rfl) rfl rfl lq_0 sq_0 (by decide) rfl lm_S_121 im_45 is_45 (by decide +kernel) k1
theorem b_S_least_12 {X : aX} {d : Nat} {post : aO} {vi : Nat → Nat → Int32} {vl : Nat → Nat → Int64} {x1 x2 x3 y0 : Int32} (k1 : y0 = 0 → wp X (d + 1) k_S_least 0 0 22 [some (.ref 0), some (.int x1), some (.int x2), some (.int x3)] [] (mk vi vl) post) (k2 : ¬ y0 = 0 → wp X (d + 1) k_S_least 0 0 15 [some (.ref 0), some (.int x1), some (.int x2), some (.int x3)] [] (mk vi vl) post) : wp X (d + 1) k_S_least 0 0 12 [some (.ref 0), some (.int x1), some (.int x2), some (.int x3)] [.int y0] (mk vi vl) post :=
  wr_if_eq (off := 10) (t := 22) (by decide +kernel) (by decide) k1 k2
theorem b_S_least_15 {X : aX} {d : Nat} {post : aO} {vi : Nat → Nat → Int32} {vl : Nat → Nat → Int64} {x1 x2 x3 : Int32} (k1 : CallOk X d 0 0 k_S_isRow [.int x3] (mk vi vl) (fun r N' => wp X (d + 1) k_S_least 0 0 19 [some (.ref 0), some (.int x1), some (.int x2), some (.int x3)] (pR r []) N' post)) : wp X (d + 1) k_S_least 0 0 15 [some (.ref 0), some (.int x1), some (.int x2), some (.int x3)] [] (mk vi vl) post :=
  wr_iload_n (q := 3) (by decide +kernel) rfl rfl <|
  wr_invS (mid2 := 7) (idx := 60) (b1 := 0) (b2 := 0) (c1 := 0) (c2 := 0) (as := [.int x3]) (st := []) pl_7 rfl (Nat.le_of_ble_eq_true rfl) rfl rfl lm_S_60 it_7 (by decide +kernel) k1
theorem b_S_least_19 {X : aX} {d : Nat} {post : aO} {vi : Nat → Nat → Int32} {vl : Nat → Nat → Int64} {x1 x2 x3 y0 : Int32} (k1 : ¬ y0 = 0 → wp X (d + 1) k_S_least 0 0 24 [some (.ref 0), some (.int x1), some (.int x2), some (.int x3)] [] (mk vi vl) post) (k2 : y0 = 0 → wp X (d + 1) k_S_least 0 0 22 [some (.ref 0), some (.int x1), some (.int x2), some (.int x3)] [] (mk vi vl) post) : wp X (d + 1) k_S_least 0 0 19 [some (.ref 0), some (.int x1), some (.int x2), some (.int x3)] [.int y0] (mk vi vl) post :=
  wr_if_ne (off := 5) (t := 24) (by decide +kernel) (by decide) k1 k2
theorem b_S_least_22 {X : aX} {d : Nat} {post : aO} {vi : Nat → Nat → Int32} {vl : Nat → Nat → Int64} {x1 x2 x3 : Int32} (k1 : post (some (.int (-1 : Int32))) (mk vi vl)) : wp X (d + 1) k_S_least 0 0 22 [some (.ref 0), some (.int x1), some (.int x2), some (.int x3)] [] (mk vi vl) post :=
  wr_iconst (n := -1) (v := (-1 : Int32)) (by decide +kernel) (by decide) <|
  wr_ret (r := some (.int (-1 : Int32))) (Or.inr (Or.inl ⟨_, rfl, (by decide +kernel), (Or.inl rfl)⟩)) k1
theorem b_S_least_24 {X : aX} {d : Nat} {post : aO} {vi : Nat → Nat → Int32} {vl : Nat → Nat → Int64} {x1 x2 x3 : Int32} (k1 : CallOk X d 0 0 k_P_begin [.ref 26, .int (1 : Int32), .int (0 : Int32)] (mk vi vl) (fun r N' => wp X (d + 1) k_S_least 0 0 33 [some (.ref 0), some (.int x1), some (.int x2), some (.int x3)] (pR r []) N' post)) : wp X (d + 1) k_S_least 0 0 24 [some (.ref 0), some (.int x1), some (.int x2), some (.int x3)] [] (mk vi vl) post :=
  wr_aload_n (q := 0) (by decide +kernel) rfl rfl <|
  wr_getR2 (b := 26) (ci := 3) (k0 := 5) (idx := 35) lq_0 sq_0 (by decide) (by decide) lf_S_35 rfl vq_0_5 lq_26 (by decide +kernel) <|
  wr_iconst (n := 1) (v := (1 : Int32)) (by decide +kernel) (by decide) <|
  wr_iconst (n := 0) (v := (0 : Int32)) (by decide +kernel) (by decide) <|
  wr_invV (a := 26) (ci := 1) (mid2 := 79) (idx := 189) (b1 := 0) (b2 := 0) (c1 := 0) (c2 := 0) (as := [.int (1 : Int32), .int (0 : Int32)]) (st := []) pl_79 rfl (Nat.le_of_ble_eq_true rfl) rfl rfl lq_26 sq_26 (by decide) rfl lm_S_189 im_79 is_79 (by decide +kernel) k1
theorem b_S_least_33 {X : aX} {d : Nat} {post : aO} {vi : Nat → Nat → Int32} {vl : Nat → Nat → Int64} {x1 x2 x3 : Int32} (k1 : CallOk X d 0 0 k_P_want [.ref 26, .int x2, .int ((1 : Int32) <<< (x1 &&& 31))] (mk vi vl) (fun r N' => wp X (d + 1) k_S_least 0 0 44 [some (.ref 0), some (.int x1), some (.int x2), some (.int x3)] (pR r []) N' post)) : wp X (d + 1) k_S_least 0 0 33 [some (.ref 0), some (.int x1), some (.int x2), some (.int x3)] [] (mk vi vl) post :=
  wr_aload_n (q := 0) (by decide +kernel) rfl rfl <|
  wr_getR2 (b := 26) (ci := 3) (k0 := 5) (idx := 35) lq_0 sq_0 (by decide) (by decide) lf_S_35 rfl vq_0_5 lq_26 (by decide +kernel) <|
  wr_iload_n (q := 2) (by decide +kernel) rfl rfl <|
  wr_iconst (n := 1) (v := (1 : Int32)) (by decide +kernel) (by decide) <|
  wr_iload_n (q := 1) (by decide +kernel) rfl rfl <|
  wr_ishl (by decide +kernel) <|
  wr_invV (a := 26) (ci := 1) (mid2 := 80) (idx := 192) (b1 := 0) (b2 := 0) (c1 := 0) (c2 := 0) (as := [.int x2, .int ((1 : Int32) <<< (x1 &&& 31))]) (st := []) pl_80 rfl (Nat.le_of_ble_eq_true rfl) rfl rfl lq_26 sq_26 (by decide) rfl lm_S_192 im_80 is_80 (by decide +kernel) k1
theorem b_S_least_44 {X : aX} {d : Nat} {post : aO} {vi : Nat → Nat → Int32} {vl : Nat → Nat → Int64} {x1 x2 x3 : Int32} (k1 : CallOk X d 0 0 k_S_fewestInto [.ref 0, .int x3] (mk vi vl) (fun r N' => wp X (d + 1) k_S_least 0 0 49 [some (.ref 0), some (.int x1), some (.int x2), some (.int x3)] (pR r []) N' post)) : wp X (d + 1) k_S_least 0 0 44 [some (.ref 0), some (.int x1), some (.int x2), some (.int x3)] [] (mk vi vl) post :=
  wr_aload_n (q := 0) (by decide +kernel) rfl rfl <|
  wr_iload_n (q := 3) (by decide +kernel) rfl rfl <|
  wr_invV (a := 0) (ci := 3) (mid2 := 81) (idx := 195) (b1 := 0) (b2 := 0) (c1 := 0) (c2 := 0) (as := [.int x3]) (st := []) pl_81 rfl (Nat.le_of_ble_eq_true rfl) rfl rfl lq_0 sq_0 (by decide) rfl lm_S_195 im_81 is_81 (by decide +kernel) k1
theorem b_S_least_49 {X : aX} {d : Nat} {post : aO} {vi : Nat → Nat → Int32} {vl : Nat → Nat → Int64} {x1 x2 x3 y0 : Int32} (k1 : post (some (.int y0)) (mk vi vl)) : wp X (d + 1) k_S_least 0 0 49 [some (.ref 0), some (.int x1), some (.int x2), some (.int x3)] [.int y0] (mk vi vl) post :=
  wr_ret (r := some (.int y0)) (Or.inr (Or.inl ⟨_, rfl, (by decide +kernel), (Or.inl rfl)⟩)) k1
theorem b_S_fewestInto_0 {X : aX} {d : Nat} {post : aO} {vi : Nat → Nat → Int32} {vl : Nat → Nat → Int64} {x1 : Int32} (k1 : wp X (d + 1) k_S_fewestInto 0 0 2 [some (.ref 0), some (.int x1), some (.int (0 : Int32))] [] (mk vi vl) post) : wp X (d + 1) k_S_fewestInto 0 0 0 [some (.ref 0), some (.int x1), none] [] (mk vi vl) post :=
  wr_iconst (n := 0) (v := (0 : Int32)) (by decide +kernel) (by decide) <|
  wr_istore_n (q := 2) (by decide +kernel) rfl (by decide) <|
  k1
theorem b_S_fewestInto_2 {X : aX} {d : Nat} {post : aO} {vi : Nat → Nat → Int32} {vl : Nat → Nat → Int64} {x1 x2 : Int32} (k1 : (vi 3 0) < x2 → wp X (d + 1) k_S_fewestInto 0 0 81 [some (.ref 0), some (.int x1), some (.int x2)] [] (mk vi vl) post) (k2 : ¬ (vi 3 0) < x2 → wp X (d + 1) k_S_fewestInto 0 0 13 [some (.ref 0), some (.int x1), some (.int x2)] [] (mk vi vl) post) : wp X (d + 1) k_S_fewestInto 0 0 2 [some (.ref 0), some (.int x1), some (.int x2)] [] (mk vi vl) post :=
  wr_iload_n (q := 2) (by decide +kernel) rfl rfl <|
  wr_aload_n (q := 0) (by decide +kernel) rfl rfl <|
  wr_getR2 (b := 3) (ci := 3) (k0 := 2) (idx := 21) lq_0 sq_0 (by decide) (by decide) lf_S_21 rfl vq_0_2 lq_3 (by decide +kernel) <|
  wr_getI (ci := 0) (k0 := 0) (idx := 118) lq_3 sq_3 (by decide) (by decide) lf_S_118 (Or.inl rfl) (by decide +kernel) <|
  wr_icmp_gt (off := 71) (t := 81) (by decide +kernel) (by decide) k1 k2
theorem b_S_fewestInto_13 {X : aX} {d : Nat} {post : aO} {vi : Nat → Nat → Int32} {vl : Nat → Nat → Int64} {x1 x2 : Int32} (k1 : CallOk X d 0 0 k_P_seek [.ref 26, .ref 3, .int x2] (mk vi vl) (fun r N' => wp X (d + 1) k_S_fewestInto 0 0 25 [some (.ref 0), some (.int x1), some (.int x2)] (pR r []) N' post)) : wp X (d + 1) k_S_fewestInto 0 0 13 [some (.ref 0), some (.int x1), some (.int x2)] [] (mk vi vl) post :=
  wr_aload_n (q := 0) (by decide +kernel) rfl rfl <|
  wr_getR2 (b := 26) (ci := 3) (k0 := 5) (idx := 35) lq_0 sq_0 (by decide) (by decide) lf_S_35 rfl vq_0_5 lq_26 (by decide +kernel) <|
  wr_aload_n (q := 0) (by decide +kernel) rfl rfl <|
  wr_getR2 (b := 3) (ci := 3) (k0 := 2) (idx := 21) lq_0 sq_0 (by decide) (by decide) lf_S_21 rfl vq_0_2 lq_3 (by decide +kernel) <|
  wr_iload_n (q := 2) (by decide +kernel) rfl rfl <|
  wr_invV (a := 26) (ci := 1) (mid2 := 82) (idx := 198) (b1 := 0) (b2 := 0) (c1 := 0) (c2 := 0) (as := [.ref 3, .int x2]) (st := []) pl_82 rfl (Nat.le_of_ble_eq_true rfl) rfl rfl lq_26 sq_26 (by decide) rfl lm_S_198 im_82 is_82 (by decide +kernel) k1
theorem b_S_fewestInto_25 {X : aX} {d : Nat} {post : aO} {vi : Nat → Nat → Int32} {vl : Nat → Nat → Int64} {x1 x2 y0 : Int32} (k1 : y0 ≤ 0 → wp X (d + 1) k_S_fewestInto 0 0 75 [some (.ref 0), some (.int x1), some (.int x2)] [] (mk vi vl) post) (k2 : ¬ y0 ≤ 0 → wp X (d + 1) k_S_fewestInto 0 0 28 [some (.ref 0), some (.int x1), some (.int x2)] [] (mk vi vl) post) : wp X (d + 1) k_S_fewestInto 0 0 25 [some (.ref 0), some (.int x1), some (.int x2)] [.int y0] (mk vi vl) post :=
  wr_if_le (off := 50) (t := 75) (by decide +kernel) (by decide) k1 k2
theorem b_S_fewestInto_28 {X : aX} {d : Nat} {post : aO} {vi : Nat → Nat → Int32} {vl : Nat → Nat → Int64} {x1 x2 : Int32} (q1 : vp_in x1 6) (k1 : CallOk X d 0 0 k_R_begin [.ref (42 + 2 * x1.toNatClampNeg), .int (vi 3 0), .int (0 : Int32)] (mk vi vl) (fun r N' => wp X (d + 1) k_S_fewestInto 0 0 45 [some (.ref 0), some (.int x1), some (.int x2)] (pR r []) N' post)) : wp X (d + 1) k_S_fewestInto 0 0 28 [some (.ref 0), some (.int x1), some (.int x2)] [] (mk vi vl) post :=
  wr_aload_n (q := 0) (by decide +kernel) rfl rfl <|
  wr_getR2 (b := 1) (ci := 3) (k0 := 0) (idx := 11) lq_0 sq_0 (by decide) (by decide) lf_S_11 rfl vq_0_0 lq_1 (by decide +kernel) <|
  wr_iload_n (q := 1) (by decide +kernel) rfl rfl <|
  wr_aald2 (b := 42 + 2 * x1.toNatClampNeg) lq_1 sq_1 (Or.inl rfl) q1 (rows_v (vin_lt q1)) (rw_lt0 (rows_i (vin_lt q1))) (by decide +kernel) <|
  wr_aload_n (q := 0) (by decide +kernel) rfl rfl <|
  wr_getR2 (b := 3) (ci := 3) (k0 := 2) (idx := 21) lq_0 sq_0 (by decide) (by decide) lf_S_21 rfl vq_0_2 lq_3 (by decide +kernel) <|
  wr_getI (ci := 0) (k0 := 0) (idx := 118) lq_3 sq_3 (by decide) (by decide) lf_S_118 (Or.inl rfl) (by decide +kernel) <|
  wr_iconst (n := 0) (v := (0 : Int32)) (by decide +kernel) (by decide) <|
  wr_invV (a := 42 + 2 * x1.toNatClampNeg) (ci := 2) (mid2 := 9) (idx := 68) (b1 := 0) (b2 := 0) (c1 := 0) (c2 := 0) (as := [.int (vi 3 0), .int (0 : Int32)]) (st := []) pl_9 rfl (Nat.le_of_ble_eq_true rfl) rfl rfl (rw_lt0 (rows_i (vin_lt q1))) (rw_s0 (rows_i (vin_lt q1))) (by decide) rfl lm_S_68 im_9 is_9 (by decide +kernel) k1
theorem b_S_fewestInto_45 {X : aX} {d : Nat} {post : aO} {vi : Nat → Nat → Int32} {vl : Nat → Nat → Int64} {x1 x2 : Int32} (q1 : vp_in x1 6) (q2 : ¬ (vi 3 0) < 0) (q3 : 0 + (vi 3 0).toNatClampNeg ≤ 5) (q4 : 0 + (vi 3 0).toNatClampNeg ≤ (rl (42 + 2 * x1.toNatClampNeg))) (k1 : ∀ w, w = up1 vi ((42 + 2 * x1.toNatClampNeg) + 1) (va_cpy (vi 40) (vi ((42 + 2 * x1.toNatClampNeg) + 1)) 0 0 (vi 3 0).toNatClampNeg) → wp X (d + 1) k_S_fewestInto 0 0 73 [some (.ref 0), some (.int x1), some (.int x2)] [] (mk w vl) post) : wp X (d + 1) k_S_fewestInto 0 0 45 [some (.ref 0), some (.int x1), some (.int x2)] [] (mk vi vl) post :=
  wr_aload_n (q := 0) (by decide +kernel) rfl rfl <|
  wr_getR2 (b := 26) (ci := 3) (k0 := 5) (idx := 35) lq_0 sq_0 (by decide) (by decide) lf_S_35 rfl vq_0_5 lq_26 (by decide +kernel) <|
  wr_getR2 (b := 40) (ci := 1) (k0 := 7) (idx := 234) lq_26 sq_26 (by decide) (by decide) lf_S_234 rfl vq_26_7 lq_40 (by decide +kernel) <|
  wr_iconst (n := 0) (v := (0 : Int32)) (by decide +kernel) (by decide) <|
  wr_aload_n (q := 0) (by decide +kernel) rfl rfl <|
  wr_getR2 (b := 1) (ci := 3) (k0 := 0) (idx := 11) lq_0 sq_0 (by decide) (by decide) lf_S_11 rfl vq_0_0 lq_1 (by decide +kernel) <|
  wr_iload_n (q := 1) (by decide +kernel) rfl rfl <|
  wr_aald2 (b := 42 + 2 * x1.toNatClampNeg) lq_1 sq_1 (Or.inl rfl) q1 (rows_v (vin_lt q1)) (rw_lt0 (rows_i (vin_lt q1))) (by decide +kernel) <|
  wr_getR2 (b := (42 + 2 * x1.toNatClampNeg) + 1) (ci := 2) (k0 := 0) (idx := 76) (rw_lt0 (rows_i (vin_lt q1))) (rw_s0 (rows_i (vin_lt q1))) (by decide) (by decide) lf_S_76 rfl (rw_v0 (rows_i (vin_lt q1))) (rw_lt1 (rows_i (vin_lt q1))) (by decide +kernel) <|
  wr_iconst (n := 0) (v := (0 : Int32)) (by decide +kernel) (by decide) <|
  wr_aload_n (q := 0) (by decide +kernel) rfl rfl <|
  wr_getR2 (b := 3) (ci := 3) (k0 := 2) (idx := 21) lq_0 sq_0 (by decide) (by decide) lf_S_21 rfl vq_0_2 lq_3 (by decide +kernel) <|
  wr_getI (ci := 0) (k0 := 0) (idx := 118) lq_3 sq_3 (by decide) (by decide) lf_S_118 (Or.inl rfl) (by decide +kernel) <|
  wr_copy (idx := 90) lx_S lx_na lx_st lx_in (Nat.le_of_ble_eq_true rfl) lq_40 (rw_lt1 (rows_i (vin_lt q1))) sq_40 (rw_s1 (rows_i (vin_lt q1))) (by decide) (by decide) q2 q3 q4 (by decide +kernel) <|
  k1 _ rfl
theorem b_S_fewestInto_73 {X : aX} {d : Nat} {post : aO} {vi : Nat → Nat → Int32} {vl : Nat → Nat → Int64} {x1 x2 : Int32} (k1 : post (some (.int x2)) (mk vi vl)) : wp X (d + 1) k_S_fewestInto 0 0 73 [some (.ref 0), some (.int x1), some (.int x2)] [] (mk vi vl) post :=
  wr_iload_n (q := 2) (by decide +kernel) rfl rfl <|
  wr_ret (r := some (.int x2)) (Or.inr (Or.inl ⟨_, rfl, (by decide +kernel), (Or.inl rfl)⟩)) k1
theorem b_S_fewestInto_75 {X : aX} {d : Nat} {post : aO} {vi : Nat → Nat → Int32} {vl : Nat → Nat → Int64} {x1 x2 : Int32} (k1 : wp X (d + 1) k_S_fewestInto 0 0 2 [some (.ref 0), some (.int x1), some (.int (x2 + (1 : Int32)))] [] (mk vi vl) post) : wp X (d + 1) k_S_fewestInto 0 0 75 [some (.ref 0), some (.int x1), some (.int x2)] [] (mk vi vl) post :=
  wr_iinc (i := 2) (n := 1) (v := (1 : Int32)) (by decide +kernel) rfl (by decide) (by decide) <|
  wr_goto (off := -76) (t := 2) (by decide +kernel) (by decide) k1
theorem b_S_fewestInto_81 {X : aX} {d : Nat} {post : aO} {vi : Nat → Nat → Int32} {vl : Nat → Nat → Int64} {x1 x2 : Int32} (k1 : post (some (.int (-9 : Int32))) (mk vi vl)) : wp X (d + 1) k_S_fewestInto 0 0 81 [some (.ref 0), some (.int x1), some (.int x2)] [] (mk vi vl) post :=
  wr_bipush (n := -9) (v := (-9 : Int32)) (by decide +kernel) (by decide) <|
  wr_ret (r := some (.int (-9 : Int32))) (Or.inr (Or.inl ⟨_, rfl, (by decide +kernel), (Or.inl rfl)⟩)) k1
theorem b_S_happeningBit_0 {X : aX} {d : Nat} {post : aO} {vi : Nat → Nat → Int32} {vl : Nat → Nat → Int64} {x0 : Int32} (k1 : ¬ x0 = (-9 : Int32) → wp X (d + 1) k_S_happeningBit 0 0 11 [some (.int x0)] [] (mk vi vl) post) (k2 : x0 = (-9 : Int32) → wp X (d + 1) k_S_happeningBit 0 0 6 [some (.int x0)] [] (mk vi vl) post) : wp X (d + 1) k_S_happeningBit 0 0 0 [some (.int x0)] [] (mk vi vl) post :=
  wr_iload_n (q := 0) (by decide +kernel) rfl rfl <|
  wr_bipush (n := -9) (v := (-9 : Int32)) (by decide +kernel) (by decide) <|
  wr_icmp_ne (off := 8) (t := 11) (by decide +kernel) (by decide) k1 k2
theorem b_S_happeningBit_6 {X : aX} {d : Nat} {post : aO} {vi : Nat → Nat → Int32} {vl : Nat → Nat → Int64} {x0 : Int32} (k1 : wp X (d + 1) k_S_happeningBit 0 0 14 [some (.int x0)] [.int (32 : Int32)] (mk vi vl) post) : wp X (d + 1) k_S_happeningBit 0 0 6 [some (.int x0)] [] (mk vi vl) post :=
  wr_bipush (n := 32) (v := (32 : Int32)) (by decide +kernel) (by decide) <|
  wr_goto (off := 6) (t := 14) (by decide +kernel) (by decide) k1
theorem b_S_happeningBit_11 {X : aX} {d : Nat} {post : aO} {vi : Nat → Nat → Int32} {vl : Nat → Nat → Int64} {x0 : Int32} (k1 : wp X (d + 1) k_S_happeningBit 0 0 14 [some (.int x0)] [.int ((1 : Int32) <<< (x0 &&& 31))] (mk vi vl) post) : wp X (d + 1) k_S_happeningBit 0 0 11 [some (.int x0)] [] (mk vi vl) post :=
  wr_iconst (n := 1) (v := (1 : Int32)) (by decide +kernel) (by decide) <|
  wr_iload_n (q := 0) (by decide +kernel) rfl rfl <|
  wr_ishl (by decide +kernel) <|
  k1
theorem b_S_happeningBit_14 {X : aX} {d : Nat} {post : aO} {vi : Nat → Nat → Int32} {vl : Nat → Nat → Int64} {x0 y0 : Int32} (k1 : post (some (.int y0)) (mk vi vl)) : wp X (d + 1) k_S_happeningBit 0 0 14 [some (.int x0)] [.int y0] (mk vi vl) post :=
  wr_ret (r := some (.int y0)) (Or.inr (Or.inl ⟨_, rfl, (by decide +kernel), (Or.inl rfl)⟩)) k1
theorem b_S_ways_0 {X : aX} {d : Nat} {post : aO} {vi : Nat → Nat → Int32} {vl : Nat → Nat → Int64} {x1 x2 x3 : Int32} (k1 : CallOk X d 0 0 k_S_isScene [.int x1] (mk vi vl) (fun r N' => wp X (d + 1) k_S_ways 0 0 4 [some (.ref 0), some (.int x1), some (.int x2), some (.int x3)] (pR r []) N' post)) : wp X (d + 1) k_S_ways 0 0 0 [some (.ref 0), some (.int x1), some (.int x2), some (.int x3)] [] (mk vi vl) post :=
  wr_iload_n (q := 1) (by decide +kernel) rfl rfl <|
  wr_invS (mid2 := 31) (idx := 154) (b1 := 0) (b2 := 0) (c1 := 0) (c2 := 0) (as := [.int x1]) (st := []) pl_31 rfl (Nat.le_of_ble_eq_true rfl) rfl rfl lm_S_154 it_31 (by decide +kernel) k1
theorem b_S_ways_4 {X : aX} {d : Nat} {post : aO} {vi : Nat → Nat → Int32} {vl : Nat → Nat → Int64} {x1 x2 x3 y0 : Int32} (k1 : y0 = 0 → wp X (d + 1) k_S_ways 0 0 24 [some (.ref 0), some (.int x1), some (.int x2), some (.int x3)] [] (mk vi vl) post) (k2 : ¬ y0 = 0 → wp X (d + 1) k_S_ways 0 0 7 [some (.ref 0), some (.int x1), some (.int x2), some (.int x3)] [] (mk vi vl) post) : wp X (d + 1) k_S_ways 0 0 4 [some (.ref 0), some (.int x1), some (.int x2), some (.int x3)] [.int y0] (mk vi vl) post :=
  wr_if_eq (off := 20) (t := 24) (by decide +kernel) (by decide) k1 k2
theorem b_S_ways_7 {X : aX} {d : Nat} {post : aO} {vi : Nat → Nat → Int32} {vl : Nat → Nat → Int64} {x1 x2 x3 : Int32} (k1 : CallOk X d 0 0 k_S_isYear [.ref 0, .int x2] (mk vi vl) (fun r N' => wp X (d + 1) k_S_ways 0 0 12 [some (.ref 0), some (.int x1), some (.int x2), some (.int x3)] (pR r []) N' post)) : wp X (d + 1) k_S_ways 0 0 7 [some (.ref 0), some (.int x1), some (.int x2), some (.int x3)] [] (mk vi vl) post :=
  wr_aload_n (q := 0) (by decide +kernel) rfl rfl <|
  wr_iload_n (q := 2) (by decide +kernel) rfl rfl <|
  wr_invV (a := 0) (ci := 3) (mid2 := 45) (idx := 121) (b1 := 0) (b2 := 0) (c1 := 0) (c2 := 0) (as := [.int x2]) (st := []) pl_45 rfl (Nat.le_of_ble_eq_true rfl) rfl rfl lq_0 sq_0 (by decide) rfl lm_S_121 im_45 is_45 (by decide +kernel) k1
theorem b_S_ways_12 {X : aX} {d : Nat} {post : aO} {vi : Nat → Nat → Int32} {vl : Nat → Nat → Int64} {x1 x2 x3 y0 : Int32} (k1 : y0 = 0 → wp X (d + 1) k_S_ways 0 0 24 [some (.ref 0), some (.int x1), some (.int x2), some (.int x3)] [] (mk vi vl) post) (k2 : ¬ y0 = 0 → wp X (d + 1) k_S_ways 0 0 15 [some (.ref 0), some (.int x1), some (.int x2), some (.int x3)] [] (mk vi vl) post) : wp X (d + 1) k_S_ways 0 0 12 [some (.ref 0), some (.int x1), some (.int x2), some (.int x3)] [.int y0] (mk vi vl) post :=
  wr_if_eq (off := 12) (t := 24) (by decide +kernel) (by decide) k1 k2
theorem b_S_ways_15 {X : aX} {d : Nat} {post : aO} {vi : Nat → Nat → Int32} {vl : Nat → Nat → Int64} {x1 x2 x3 : Int32} (k1 : x3 < 0 → wp X (d + 1) k_S_ways 0 0 24 [some (.ref 0), some (.int x1), some (.int x2), some (.int x3)] [] (mk vi vl) post) (k2 : ¬ x3 < 0 → wp X (d + 1) k_S_ways 0 0 19 [some (.ref 0), some (.int x1), some (.int x2), some (.int x3)] [] (mk vi vl) post) : wp X (d + 1) k_S_ways 0 0 15 [some (.ref 0), some (.int x1), some (.int x2), some (.int x3)] [] (mk vi vl) post :=
  wr_iload_n (q := 3) (by decide +kernel) rfl rfl <|
  wr_if_lt (off := 8) (t := 24) (by decide +kernel) (by decide) k1 k2
theorem b_S_ways_19 {X : aX} {d : Nat} {post : aO} {vi : Nat → Nat → Int32} {vl : Nat → Nat → Int64} {x1 x2 x3 : Int32} (k1 : x3 ≤ (5 : Int32) → wp X (d + 1) k_S_ways 0 0 26 [some (.ref 0), some (.int x1), some (.int x2), some (.int x3)] [] (mk vi vl) post) (k2 : ¬ x3 ≤ (5 : Int32) → wp X (d + 1) k_S_ways 0 0 24 [some (.ref 0), some (.int x1), some (.int x2), some (.int x3)] [] (mk vi vl) post) : wp X (d + 1) k_S_ways 0 0 19 [some (.ref 0), some (.int x1), some (.int x2), some (.int x3)] [] (mk vi vl) post :=
  wr_iload_n (q := 3) (by decide +kernel) rfl rfl <|
  wr_iconst (n := 5) (v := (5 : Int32)) (by decide +kernel) (by decide) <|
  wr_icmp_le (off := 5) (t := 26) (by decide +kernel) (by decide) k1 k2
theorem b_S_ways_24 {X : aX} {d : Nat} {post : aO} {vi : Nat → Nat → Int32} {vl : Nat → Nat → Int64} {x1 x2 x3 : Int32} (k1 : post (some (.int (-1 : Int32))) (mk vi vl)) : wp X (d + 1) k_S_ways 0 0 24 [some (.ref 0), some (.int x1), some (.int x2), some (.int x3)] [] (mk vi vl) post :=
  wr_iconst (n := -1) (v := (-1 : Int32)) (by decide +kernel) (by decide) <|
  wr_ret (r := some (.int (-1 : Int32))) (Or.inr (Or.inl ⟨_, rfl, (by decide +kernel), (Or.inl rfl)⟩)) k1
theorem b_S_ways_26 {X : aX} {d : Nat} {post : aO} {vi : Nat → Nat → Int32} {vl : Nat → Nat → Int64} {x1 x2 x3 : Int32} (k1 : CallOk X d 0 0 k_P_begin [.ref 26, .int (1 : Int32), .int (0 : Int32)] (mk vi vl) (fun r N' => wp X (d + 1) k_S_ways 0 0 35 [some (.ref 0), some (.int x1), some (.int x2), some (.int x3)] (pR r []) N' post)) : wp X (d + 1) k_S_ways 0 0 26 [some (.ref 0), some (.int x1), some (.int x2), some (.int x3)] [] (mk vi vl) post :=
  wr_aload_n (q := 0) (by decide +kernel) rfl rfl <|
  wr_getR2 (b := 26) (ci := 3) (k0 := 5) (idx := 35) lq_0 sq_0 (by decide) (by decide) lf_S_35 rfl vq_0_5 lq_26 (by decide +kernel) <|
  wr_iconst (n := 1) (v := (1 : Int32)) (by decide +kernel) (by decide) <|
  wr_iconst (n := 0) (v := (0 : Int32)) (by decide +kernel) (by decide) <|
  wr_invV (a := 26) (ci := 1) (mid2 := 79) (idx := 189) (b1 := 0) (b2 := 0) (c1 := 0) (c2 := 0) (as := [.int (1 : Int32), .int (0 : Int32)]) (st := []) pl_79 rfl (Nat.le_of_ble_eq_true rfl) rfl rfl lq_26 sq_26 (by decide) rfl lm_S_189 im_79 is_79 (by decide +kernel) k1
theorem b_S_ways_35 {X : aX} {d : Nat} {post : aO} {vi : Nat → Nat → Int32} {vl : Nat → Nat → Int64} {x1 x2 x3 : Int32} (k1 : CallOk X d 0 0 k_P_want [.ref 26, .int x2, .int ((1 : Int32) <<< (x1 &&& 31))] (mk vi vl) (fun r N' => wp X (d + 1) k_S_ways 0 0 46 [some (.ref 0), some (.int x1), some (.int x2), some (.int x3)] (pR r []) N' post)) : wp X (d + 1) k_S_ways 0 0 35 [some (.ref 0), some (.int x1), some (.int x2), some (.int x3)] [] (mk vi vl) post :=
  wr_aload_n (q := 0) (by decide +kernel) rfl rfl <|
  wr_getR2 (b := 26) (ci := 3) (k0 := 5) (idx := 35) lq_0 sq_0 (by decide) (by decide) lf_S_35 rfl vq_0_5 lq_26 (by decide +kernel) <|
  wr_iload_n (q := 2) (by decide +kernel) rfl rfl <|
  wr_iconst (n := 1) (v := (1 : Int32)) (by decide +kernel) (by decide) <|
  wr_iload_n (q := 1) (by decide +kernel) rfl rfl <|
  wr_ishl (by decide +kernel) <|
  wr_invV (a := 26) (ci := 1) (mid2 := 80) (idx := 192) (b1 := 0) (b2 := 0) (c1 := 0) (c2 := 0) (as := [.int x2, .int ((1 : Int32) <<< (x1 &&& 31))]) (st := []) pl_80 rfl (Nat.le_of_ble_eq_true rfl) rfl rfl lq_26 sq_26 (by decide) rfl lm_S_192 im_80 is_80 (by decide +kernel) k1
theorem b_S_ways_46 {X : aX} {d : Nat} {post : aO} {vi : Nat → Nat → Int32} {vl : Nat → Nat → Int64} {x1 x2 x3 : Int32} (k1 : CallOk X d 0 0 k_P_seek [.ref 26, .ref 3, .int x3] (mk vi vl) (fun r N' => wp X (d + 1) k_S_ways 0 0 59 [some (.ref 0), some (.int x1), some (.int x2), some (.int x3)] (pR r [.ref 0]) N' post)) : wp X (d + 1) k_S_ways 0 0 46 [some (.ref 0), some (.int x1), some (.int x2), some (.int x3)] [] (mk vi vl) post :=
  wr_aload_n (q := 0) (by decide +kernel) rfl rfl <|
  wr_aload_n (q := 0) (by decide +kernel) rfl rfl <|
  wr_getR2 (b := 26) (ci := 3) (k0 := 5) (idx := 35) lq_0 sq_0 (by decide) (by decide) lf_S_35 rfl vq_0_5 lq_26 (by decide +kernel) <|
  wr_aload_n (q := 0) (by decide +kernel) rfl rfl <|
  wr_getR2 (b := 3) (ci := 3) (k0 := 2) (idx := 21) lq_0 sq_0 (by decide) (by decide) lf_S_21 rfl vq_0_2 lq_3 (by decide +kernel) <|
  wr_iload_n (q := 3) (by decide +kernel) rfl rfl <|
  wr_invV (a := 26) (ci := 1) (mid2 := 82) (idx := 198) (b1 := 0) (b2 := 0) (c1 := 0) (c2 := 0) (as := [.ref 3, .int x3]) (st := [.ref 0]) pl_82 rfl (Nat.le_of_ble_eq_true rfl) rfl rfl lq_26 sq_26 (by decide) rfl lm_S_198 im_82 is_82 (by decide +kernel) k1
theorem b_S_ways_59 {X : aX} {d : Nat} {post : aO} {vi : Nat → Nat → Int32} {vl : Nat → Nat → Int64} {x1 x2 x3 y1 : Int32} (k1 : CallOk X d 0 0 k_S_tellFraction [.ref 0, .long y1.toInt64, .long (1 : Int64)] (mk vi vl) (fun r N' => wp X (d + 1) k_S_ways 0 0 64 [some (.ref 0), some (.int x1), some (.int x2), some (.int x3)] (pR r []) N' post)) : wp X (d + 1) k_S_ways 0 0 59 [some (.ref 0), some (.int x1), some (.int x2), some (.int x3)] [.int y1, .ref 0] (mk vi vl) post :=
  wr_i2l (by decide +kernel) <|
  wr_lconst (n := 1) (v := (1 : Int64)) (by decide +kernel) (by decide) <|
  wr_invV (a := 0) (ci := 3) (mid2 := 90) (idx := 202) (b1 := 0) (b2 := 0) (c1 := 0) (c2 := 0) (as := [.long y1.toInt64, .long (1 : Int64)]) (st := []) pl_90 rfl (Nat.le_of_ble_eq_true rfl) rfl rfl lq_0 sq_0 (by decide) rfl lm_S_202 im_90 is_90 (by decide +kernel) k1
theorem b_S_ways_64 {X : aX} {d : Nat} {post : aO} {vi : Nat → Nat → Int32} {vl : Nat → Nat → Int64} {x1 x2 x3 : Int32} (k1 : post (some (.int (1 : Int32))) (mk vi vl)) : wp X (d + 1) k_S_ways 0 0 64 [some (.ref 0), some (.int x1), some (.int x2), some (.int x3)] [] (mk vi vl) post :=
  wr_iconst (n := 1) (v := (1 : Int32)) (by decide +kernel) (by decide) <|
  wr_ret (r := some (.int (1 : Int32))) (Or.inr (Or.inl ⟨_, rfl, (by decide +kernel), (Or.inl rfl)⟩)) k1
theorem b_S_tellFraction_0 {X : aX} {d : Nat} {post : aO} {vi : Nat → Nat → Int32} {vl : Nat → Nat → Int64} {x1 x3 : Int64} (k1 : CallOk X d 0 0 k_S_commonDivisor [.long x1, .long x3] (mk vi vl) (fun r N' => wp X (d + 1) k_S_tellFraction 0 0 5 [some (.ref 0), some (.long x1), none, some (.long x3), none, none, none] (pR r []) N' post)) : wp X (d + 1) k_S_tellFraction 0 0 0 [some (.ref 0), some (.long x1), none, some (.long x3), none, none, none] [] (mk vi vl) post :=
  wr_lload_n (q := 1) (by decide +kernel) rfl rfl <|
  wr_lload_n (q := 3) (by decide +kernel) rfl rfl <|
  wr_invS (mid2 := 91) (idx := 284) (b1 := 0) (b2 := 0) (c1 := 0) (c2 := 0) (as := [.long x1, .long x3]) (st := []) pl_91 rfl (Nat.le_of_ble_eq_true rfl) rfl rfl lm_S_284 it_91 (by decide +kernel) k1
theorem b_S_tellFraction_5 {X : aX} {d : Nat} {post : aO} {vi : Nat → Nat → Int32} {vl : Nat → Nat → Int64} {x1 x3 y0 : Int64} {o5 o6 : Option Value} (k1 : (lg_cmp y0 (0 : Int64)) ≤ 0 → wp X (d + 1) k_S_tellFraction 0 0 30 [some (.ref 0), some (.long x1), none, some (.long x3), none, some (.long y0), none] [] (mk vi vl) post) (k2 : ¬ (lg_cmp y0 (0 : Int64)) ≤ 0 → wp X (d + 1) k_S_tellFraction 0 0 14 [some (.ref 0), some (.long x1), none, some (.long x3), none, some (.long y0), none] [] (mk vi vl) post) : wp X (d + 1) k_S_tellFraction 0 0 5 [some (.ref 0), some (.long x1), none, some (.long x3), none, o5, o6] [.long y0] (mk vi vl) post :=
  wr_lstore (i := 5) (by decide +kernel) (by decide) <|
  wr_lload (i := 5) (by decide +kernel) rfl <|
  wr_lconst (n := 0) (v := (0 : Int64)) (by decide +kernel) (by decide) <|
  wr_lcmp (by decide +kernel) <|
  wr_if_le (off := 19) (t := 30) (by decide +kernel) (by decide) k1 k2
theorem b_S_tellFraction_14 {X : aX} {d : Nat} {post : aO} {vi : Nat → Nat → Int32} {vl : Nat → Nat → Int64} {x1 x3 x5 : Int64} (q1 : ¬ x5 = 0) (k1 : ∀ w, w = up2 vl 0 9 (x1 / x5) → wp X (d + 1) k_S_tellFraction 0 0 22 [some (.ref 0), some (.long x1), none, some (.long x3), none, some (.long x5), none] [] (mk vi w) post) : wp X (d + 1) k_S_tellFraction 0 0 14 [some (.ref 0), some (.long x1), none, some (.long x3), none, some (.long x5), none] [] (mk vi vl) post :=
  wr_aload_n (q := 0) (by decide +kernel) rfl rfl <|
  wr_lload_n (q := 1) (by decide +kernel) rfl rfl <|
  wr_lload (i := 5) (by decide +kernel) rfl <|
  wr_ldiv (by decide +kernel) q1 <|
  wr_putL (ci := 3) (k0 := 9) (idx := 50) lq_0 sq_0 (by decide) (by decide) lf_S_50 rfl (by decide +kernel) <|
  k1 _ rfl
theorem b_S_tellFraction_22 {X : aX} {d : Nat} {post : aO} {vi : Nat → Nat → Int32} {vl : Nat → Nat → Int64} {x1 x3 x5 : Int64} (q1 : ¬ x5 = 0) (k1 : ∀ w, w = up2 vl 0 10 (x3 / x5) → wp X (d + 1) k_S_tellFraction 0 0 30 [some (.ref 0), some (.long x1), none, some (.long x3), none, some (.long x5), none] [] (mk vi w) post) : wp X (d + 1) k_S_tellFraction 0 0 22 [some (.ref 0), some (.long x1), none, some (.long x3), none, some (.long x5), none] [] (mk vi vl) post :=
  wr_aload_n (q := 0) (by decide +kernel) rfl rfl <|
  wr_lload_n (q := 3) (by decide +kernel) rfl rfl <|
  wr_lload (i := 5) (by decide +kernel) rfl <|
  wr_ldiv (by decide +kernel) q1 <|
  wr_putL (ci := 3) (k0 := 10) (idx := 54) lq_0 sq_0 (by decide) (by decide) lf_S_54 rfl (by decide +kernel) <|
  k1 _ rfl
theorem b_S_tellFraction_30 {X : aX} {d : Nat} {post : aO} {vi : Nat → Nat → Int32} {vl : Nat → Nat → Int64} {x1 x3 x5 : Int64} (k1 : post none (mk vi vl)) : wp X (d + 1) k_S_tellFraction 0 0 30 [some (.ref 0), some (.long x1), none, some (.long x3), none, some (.long x5), none] [] (mk vi vl) post :=
  wr_ret (r := none) (Or.inl ⟨rfl, (by decide +kernel), rfl⟩) k1
theorem b_S_commonDivisor_0 {X : aX} {d : Nat} {post : aO} {vi : Nat → Nat → Int32} {vl : Nat → Nat → Int64} {x0 x2 : Int64} (k1 : wp X (d + 1) k_S_commonDivisor 0 0 3 [some (.long x0), none, some (.long x2), none, some (.int (0 : Int32)), none, none] [] (mk vi vl) post) : wp X (d + 1) k_S_commonDivisor 0 0 0 [some (.long x0), none, some (.long x2), none, none, none, none] [] (mk vi vl) post :=
  wr_iconst (n := 0) (v := (0 : Int32)) (by decide +kernel) (by decide) <|
  wr_istore (i := 4) (by decide +kernel) (by decide) <|
  k1
theorem b_S_commonDivisor_3 {X : aX} {d : Nat} {post : aO} {vi : Nat → Nat → Int32} {vl : Nat → Nat → Int64} {x0 x2 : Int64} {x4 : Int32} {o5 o6 : Option Value} (k1 : (100 : Int32) ≤ x4 → wp X (d + 1) k_S_commonDivisor 0 0 32 [some (.long x0), none, some (.long x2), none, some (.int x4), o5, o6] [] (mk vi vl) post) (k2 : ¬ (100 : Int32) ≤ x4 → wp X (d + 1) k_S_commonDivisor 0 0 10 [some (.long x0), none, some (.long x2), none, some (.int x4), o5, o6] [] (mk vi vl) post) : wp X (d + 1) k_S_commonDivisor 0 0 3 [some (.long x0), none, some (.long x2), none, some (.int x4), o5, o6] [] (mk vi vl) post :=
  wr_iload (i := 4) (by decide +kernel) rfl <|
  wr_bipush (n := 100) (v := (100 : Int32)) (by decide +kernel) (by decide) <|
  wr_icmp_ge (off := 25) (t := 32) (by decide +kernel) (by decide) k1 k2
theorem b_S_commonDivisor_10 {X : aX} {d : Nat} {post : aO} {vi : Nat → Nat → Int32} {vl : Nat → Nat → Int64} {x0 x2 : Int64} {x4 : Int32} {o5 o6 : Option Value} (k1 : (lg_cmp x2 (0 : Int64)) = 0 → wp X (d + 1) k_S_commonDivisor 0 0 32 [some (.long x0), none, some (.long x2), none, some (.int x4), o5, o6] [] (mk vi vl) post) (k2 : ¬ (lg_cmp x2 (0 : Int64)) = 0 → wp X (d + 1) k_S_commonDivisor 0 0 16 [some (.long x0), none, some (.long x2), none, some (.int x4), o5, o6] [] (mk vi vl) post) : wp X (d + 1) k_S_commonDivisor 0 0 10 [some (.long x0), none, some (.long x2), none, some (.int x4), o5, o6] [] (mk vi vl) post :=
  wr_lload_n (q := 2) (by decide +kernel) rfl rfl <|
  wr_lconst (n := 0) (v := (0 : Int64)) (by decide +kernel) (by decide) <|
  wr_lcmp (by decide +kernel) <|
  wr_if_eq (off := 19) (t := 32) (by decide +kernel) (by decide) k1 k2
theorem b_S_commonDivisor_16 {X : aX} {d : Nat} {post : aO} {vi : Nat → Nat → Int32} {vl : Nat → Nat → Int64} {x0 x2 : Int64} {x4 : Int32} {o5 o6 : Option Value} (q1 : ¬ x2 = 0) (k1 : wp X (d + 1) k_S_commonDivisor 0 0 3 [some (.long x2), none, some (.long (x0 - x0 / x2 * x2)), none, some (.int (x4 + (1 : Int32))), some (.long (x0 - x0 / x2 * x2)), none] [] (mk vi vl) post) : wp X (d + 1) k_S_commonDivisor 0 0 16 [some (.long x0), none, some (.long x2), none, some (.int x4), o5, o6] [] (mk vi vl) post :=
  wr_lload_n (q := 0) (by decide +kernel) rfl rfl <|
  wr_lload_n (q := 2) (by decide +kernel) rfl rfl <|
  wr_lrem (by decide +kernel) q1 <|
  wr_lstore (i := 5) (by decide +kernel) (by decide) <|
  wr_lload_n (q := 2) (by decide +kernel) rfl rfl <|
  wr_lstore_n (q := 0) (by decide +kernel) rfl (by decide) <|
  wr_lload (i := 5) (by decide +kernel) rfl <|
  wr_lstore_n (q := 2) (by decide +kernel) rfl (by decide) <|
  wr_iinc (i := 4) (n := 1) (v := (1 : Int32)) (by decide +kernel) rfl (by decide) (by decide) <|
  wr_goto (off := -26) (t := 3) (by decide +kernel) (by decide) k1
theorem b_S_commonDivisor_32 {X : aX} {d : Nat} {post : aO} {vi : Nat → Nat → Int32} {vl : Nat → Nat → Int64} {x0 x2 : Int64} {x4 : Int32} {o5 o6 : Option Value} (k1 : post (some (.long x0)) (mk vi vl)) : wp X (d + 1) k_S_commonDivisor 0 0 32 [some (.long x0), none, some (.long x2), none, some (.int x4), o5, o6] [] (mk vi vl) post :=
  wr_lload_n (q := 0) (by decide +kernel) rfl rfl <|
  wr_ret (r := some (.long x0)) (Or.inr (Or.inr ⟨_, rfl, (by decide +kernel), rfl⟩)) k1
theorem b_S_avert_0 {X : aX} {d : Nat} {post : aO} {vi : Nat → Nat → Int32} {vl : Nat → Nat → Int64} {x1 x2 : Int32} (k1 : CallOk X d 0 0 k_S_isScene [.int x1] (mk vi vl) (fun r N' => wp X (d + 1) k_S_avert 0 0 4 [some (.ref 0), some (.int x1), some (.int x2), none] (pR r []) N' post)) : wp X (d + 1) k_S_avert 0 0 0 [some (.ref 0), some (.int x1), some (.int x2), none] [] (mk vi vl) post :=
  wr_iload_n (q := 1) (by decide +kernel) rfl rfl <|
  wr_invS (mid2 := 31) (idx := 154) (b1 := 0) (b2 := 0) (c1 := 0) (c2 := 0) (as := [.int x1]) (st := []) pl_31 rfl (Nat.le_of_ble_eq_true rfl) rfl rfl lm_S_154 it_31 (by decide +kernel) k1
theorem b_S_avert_4 {X : aX} {d : Nat} {post : aO} {vi : Nat → Nat → Int32} {vl : Nat → Nat → Int64} {x1 x2 y0 : Int32} {o3 : Option Value} (k1 : y0 = 0 → wp X (d + 1) k_S_avert 0 0 14 [some (.ref 0), some (.int x1), some (.int x2), o3] [] (mk vi vl) post) (k2 : ¬ y0 = 0 → wp X (d + 1) k_S_avert 0 0 7 [some (.ref 0), some (.int x1), some (.int x2), o3] [] (mk vi vl) post) : wp X (d + 1) k_S_avert 0 0 4 [some (.ref 0), some (.int x1), some (.int x2), o3] [.int y0] (mk vi vl) post :=
  wr_if_eq (off := 10) (t := 14) (by decide +kernel) (by decide) k1 k2
theorem b_S_avert_7 {X : aX} {d : Nat} {post : aO} {vi : Nat → Nat → Int32} {vl : Nat → Nat → Int64} {x1 x2 : Int32} {o3 : Option Value} (k1 : CallOk X d 0 0 k_S_isRow [.int x2] (mk vi vl) (fun r N' => wp X (d + 1) k_S_avert 0 0 11 [some (.ref 0), some (.int x1), some (.int x2), o3] (pR r []) N' post)) : wp X (d + 1) k_S_avert 0 0 7 [some (.ref 0), some (.int x1), some (.int x2), o3] [] (mk vi vl) post :=
  wr_iload_n (q := 2) (by decide +kernel) rfl rfl <|
  wr_invS (mid2 := 7) (idx := 60) (b1 := 0) (b2 := 0) (c1 := 0) (c2 := 0) (as := [.int x2]) (st := []) pl_7 rfl (Nat.le_of_ble_eq_true rfl) rfl rfl lm_S_60 it_7 (by decide +kernel) k1
theorem b_S_avert_11 {X : aX} {d : Nat} {post : aO} {vi : Nat → Nat → Int32} {vl : Nat → Nat → Int64} {x1 x2 y0 : Int32} {o3 : Option Value} (k1 : ¬ y0 = 0 → wp X (d + 1) k_S_avert 0 0 16 [some (.ref 0), some (.int x1), some (.int x2), o3] [] (mk vi vl) post) (k2 : y0 = 0 → wp X (d + 1) k_S_avert 0 0 14 [some (.ref 0), some (.int x1), some (.int x2), o3] [] (mk vi vl) post) : wp X (d + 1) k_S_avert 0 0 11 [some (.ref 0), some (.int x1), some (.int x2), o3] [.int y0] (mk vi vl) post :=
  wr_if_ne (off := 5) (t := 16) (by decide +kernel) (by decide) k1 k2
theorem b_S_avert_14 {X : aX} {d : Nat} {post : aO} {vi : Nat → Nat → Int32} {vl : Nat → Nat → Int64} {x1 x2 : Int32} {o3 : Option Value} (k1 : post (some (.int (-1 : Int32))) (mk vi vl)) : wp X (d + 1) k_S_avert 0 0 14 [some (.ref 0), some (.int x1), some (.int x2), o3] [] (mk vi vl) post :=
  wr_iconst (n := -1) (v := (-1 : Int32)) (by decide +kernel) (by decide) <|
  wr_ret (r := some (.int (-1 : Int32))) (Or.inr (Or.inl ⟨_, rfl, (by decide +kernel), (Or.inl rfl)⟩)) k1
theorem b_S_avert_16 {X : aX} {d : Nat} {post : aO} {vi : Nat → Nat → Int32} {vl : Nat → Nat → Int64} {x1 x2 : Int32} {o3 : Option Value} (k1 : ¬ (vi 3 0) = 0 → wp X (d + 1) k_S_avert 0 0 29 [some (.ref 0), some (.int x1), some (.int x2), o3] [] (mk vi vl) post) (k2 : (vi 3 0) = 0 → wp X (d + 1) k_S_avert 0 0 26 [some (.ref 0), some (.int x1), some (.int x2), o3] [] (mk vi vl) post) : wp X (d + 1) k_S_avert 0 0 16 [some (.ref 0), some (.int x1), some (.int x2), o3] [] (mk vi vl) post :=
  wr_aload_n (q := 0) (by decide +kernel) rfl rfl <|
  wr_getR2 (b := 3) (ci := 3) (k0 := 2) (idx := 21) lq_0 sq_0 (by decide) (by decide) lf_S_21 rfl vq_0_2 lq_3 (by decide +kernel) <|
  wr_getI (ci := 0) (k0 := 0) (idx := 118) lq_3 sq_3 (by decide) (by decide) lf_S_118 (Or.inl rfl) (by decide +kernel) <|
  wr_if_ne (off := 6) (t := 29) (by decide +kernel) (by decide) k1 k2
theorem b_S_avert_26 {X : aX} {d : Nat} {post : aO} {vi : Nat → Nat → Int32} {vl : Nat → Nat → Int64} {x1 x2 : Int32} {o3 : Option Value} (k1 : post (some (.int (-4 : Int32))) (mk vi vl)) : wp X (d + 1) k_S_avert 0 0 26 [some (.ref 0), some (.int x1), some (.int x2), o3] [] (mk vi vl) post :=
  wr_bipush (n := -4) (v := (-4 : Int32)) (by decide +kernel) (by decide) <|
  wr_ret (r := some (.int (-4 : Int32))) (Or.inr (Or.inl ⟨_, rfl, (by decide +kernel), (Or.inl rfl)⟩)) k1
theorem b_S_avert_29 {X : aX} {d : Nat} {post : aO} {vi : Nat → Nat → Int32} {vl : Nat → Nat → Int64} {x1 x2 : Int32} {o3 : Option Value} (k1 : CallOk X d 0 0 k_P_begin [.ref 26, .int (1 : Int32), .int (0 : Int32)] (mk vi vl) (fun r N' => wp X (d + 1) k_S_avert 0 0 38 [some (.ref 0), some (.int x1), some (.int x2), o3] (pR r []) N' post)) : wp X (d + 1) k_S_avert 0 0 29 [some (.ref 0), some (.int x1), some (.int x2), o3] [] (mk vi vl) post :=
  wr_aload_n (q := 0) (by decide +kernel) rfl rfl <|
  wr_getR2 (b := 26) (ci := 3) (k0 := 5) (idx := 35) lq_0 sq_0 (by decide) (by decide) lf_S_35 rfl vq_0_5 lq_26 (by decide +kernel) <|
  wr_iconst (n := 1) (v := (1 : Int32)) (by decide +kernel) (by decide) <|
  wr_iconst (n := 0) (v := (0 : Int32)) (by decide +kernel) (by decide) <|
  wr_invV (a := 26) (ci := 1) (mid2 := 79) (idx := 189) (b1 := 0) (b2 := 0) (c1 := 0) (c2 := 0) (as := [.int (1 : Int32), .int (0 : Int32)]) (st := []) pl_79 rfl (Nat.le_of_ble_eq_true rfl) rfl rfl lq_26 sq_26 (by decide) rfl lm_S_189 im_79 is_79 (by decide +kernel) k1
theorem b_S_avert_38 {X : aX} {d : Nat} {post : aO} {vi : Nat → Nat → Int32} {vl : Nat → Nat → Int64} {x1 x2 : Int32} {o3 : Option Value} (k1 : wp X (d + 1) k_S_avert 0 0 40 [some (.ref 0), some (.int x1), some (.int x2), some (.int (0 : Int32))] [] (mk vi vl) post) : wp X (d + 1) k_S_avert 0 0 38 [some (.ref 0), some (.int x1), some (.int x2), o3] [] (mk vi vl) post :=
  wr_iconst (n := 0) (v := (0 : Int32)) (by decide +kernel) (by decide) <|
  wr_istore_n (q := 3) (by decide +kernel) rfl (by decide) <|
  k1
theorem b_S_avert_40 {X : aX} {d : Nat} {post : aO} {vi : Nat → Nat → Int32} {vl : Nat → Nat → Int64} {x1 x2 x3 : Int32} (k1 : (vi 3 0) ≤ x3 → wp X (d + 1) k_S_avert 0 0 73 [some (.ref 0), some (.int x1), some (.int x2), some (.int x3)] [] (mk vi vl) post) (k2 : ¬ (vi 3 0) ≤ x3 → wp X (d + 1) k_S_avert 0 0 51 [some (.ref 0), some (.int x1), some (.int x2), some (.int x3)] [] (mk vi vl) post) : wp X (d + 1) k_S_avert 0 0 40 [some (.ref 0), some (.int x1), some (.int x2), some (.int x3)] [] (mk vi vl) post :=
  wr_iload_n (q := 3) (by decide +kernel) rfl rfl <|
  wr_aload_n (q := 0) (by decide +kernel) rfl rfl <|
  wr_getR2 (b := 3) (ci := 3) (k0 := 2) (idx := 21) lq_0 sq_0 (by decide) (by decide) lf_S_21 rfl vq_0_2 lq_3 (by decide +kernel) <|
  wr_getI (ci := 0) (k0 := 0) (idx := 118) lq_3 sq_3 (by decide) (by decide) lf_S_118 (Or.inl rfl) (by decide +kernel) <|
  wr_icmp_ge (off := 25) (t := 73) (by decide +kernel) (by decide) k1 k2
theorem b_S_avert_51 {X : aX} {d : Nat} {post : aO} {vi : Nat → Nat → Int32} {vl : Nat → Nat → Int64} {x1 x2 x3 : Int32} (k1 : CallOk X d 0 0 k_P_want [.ref 26, .int x3, .int ((63 : Int32) &&& (((1 : Int32) <<< (x1 &&& 31)) ^^^ (-1 : Int32)))] (mk vi vl) (fun r N' => wp X (d + 1) k_S_avert 0 0 67 [some (.ref 0), some (.int x1), some (.int x2), some (.int x3)] (pR r []) N' post)) : wp X (d + 1) k_S_avert 0 0 51 [some (.ref 0), some (.int x1), some (.int x2), some (.int x3)] [] (mk vi vl) post :=
  wr_aload_n (q := 0) (by decide +kernel) rfl rfl <|
  wr_getR2 (b := 26) (ci := 3) (k0 := 5) (idx := 35) lq_0 sq_0 (by decide) (by decide) lf_S_35 rfl vq_0_5 lq_26 (by decide +kernel) <|
  wr_iload_n (q := 3) (by decide +kernel) rfl rfl <|
  wr_bipush (n := 63) (v := (63 : Int32)) (by decide +kernel) (by decide) <|
  wr_iconst (n := 1) (v := (1 : Int32)) (by decide +kernel) (by decide) <|
  wr_iload_n (q := 1) (by decide +kernel) rfl rfl <|
  wr_ishl (by decide +kernel) <|
  wr_iconst (n := -1) (v := (-1 : Int32)) (by decide +kernel) (by decide) <|
  wr_ixor (by decide +kernel) <|
  wr_iand (by decide +kernel) <|
  wr_invV (a := 26) (ci := 1) (mid2 := 80) (idx := 192) (b1 := 0) (b2 := 0) (c1 := 0) (c2 := 0) (as := [.int x3, .int ((63 : Int32) &&& (((1 : Int32) <<< (x1 &&& 31)) ^^^ (-1 : Int32)))]) (st := []) pl_80 rfl (Nat.le_of_ble_eq_true rfl) rfl rfl lq_26 sq_26 (by decide) rfl lm_S_192 im_80 is_80 (by decide +kernel) k1
theorem b_S_avert_67 {X : aX} {d : Nat} {post : aO} {vi : Nat → Nat → Int32} {vl : Nat → Nat → Int64} {x1 x2 x3 : Int32} (k1 : wp X (d + 1) k_S_avert 0 0 40 [some (.ref 0), some (.int x1), some (.int x2), some (.int (x3 + (1 : Int32)))] [] (mk vi vl) post) : wp X (d + 1) k_S_avert 0 0 67 [some (.ref 0), some (.int x1), some (.int x2), some (.int x3)] [] (mk vi vl) post :=
  wr_iinc (i := 3) (n := 1) (v := (1 : Int32)) (by decide +kernel) rfl (by decide) (by decide) <|
  wr_goto (off := -30) (t := 40) (by decide +kernel) (by decide) k1
theorem b_S_avert_73 {X : aX} {d : Nat} {post : aO} {vi : Nat → Nat → Int32} {vl : Nat → Nat → Int64} {x1 x2 x3 : Int32} (k1 : CallOk X d 0 0 k_S_fewestInto [.ref 0, .int x2] (mk vi vl) (fun r N' => wp X (d + 1) k_S_avert 0 0 78 [some (.ref 0), some (.int x1), some (.int x2), some (.int x3)] (pR r []) N' post)) : wp X (d + 1) k_S_avert 0 0 73 [some (.ref 0), some (.int x1), some (.int x2), some (.int x3)] [] (mk vi vl) post :=
  wr_aload_n (q := 0) (by decide +kernel) rfl rfl <|
  wr_iload_n (q := 2) (by decide +kernel) rfl rfl <|
  wr_invV (a := 0) (ci := 3) (mid2 := 81) (idx := 195) (b1 := 0) (b2 := 0) (c1 := 0) (c2 := 0) (as := [.int x2]) (st := []) pl_81 rfl (Nat.le_of_ble_eq_true rfl) rfl rfl lq_0 sq_0 (by decide) rfl lm_S_195 im_81 is_81 (by decide +kernel) k1
theorem b_S_avert_78 {X : aX} {d : Nat} {post : aO} {vi : Nat → Nat → Int32} {vl : Nat → Nat → Int64} {x1 x2 x3 y0 : Int32} (k1 : post (some (.int y0)) (mk vi vl)) : wp X (d + 1) k_S_avert 0 0 78 [some (.ref 0), some (.int x1), some (.int x2), some (.int x3)] [.int y0] (mk vi vl) post :=
  wr_ret (r := some (.int y0)) (Or.inr (Or.inl ⟨_, rfl, (by decide +kernel), (Or.inl rfl)⟩)) k1
