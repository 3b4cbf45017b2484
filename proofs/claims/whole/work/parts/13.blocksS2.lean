theorem b_S_judge_0 {X : aX} {d : Nat} {post : aO} {vi : Nat → Nat → Int32} {vl : Nat → Nat → Int64} {x1 : Int32} (k1 : CallOk X d 0 0 k_S_isRow [.int x1] (mk vi vl) (fun r N' => wp X (d + 1) k_S_judge 0 0 4 [some (.ref 0), some (.int x1), none, none] (pR r []) N' post)) : wp X (d + 1) k_S_judge 0 0 0 [some (.ref 0), some (.int x1), none, none] [] (mk vi vl) post :=
  wr_iload_n (q := 1) (by decide +kernel) rfl rfl <|
  wr_invS (mid2 := 7) (idx := 60) (b1 := 0) (b2 := 0) (c1 := 0) (c2 := 0) (as := [.int x1]) (st := []) pl_7 rfl (Nat.le_of_ble_eq_true rfl) rfl rfl lm_S_60 it_7 (by decide +kernel) k1
theorem b_S_judge_4 {X : aX} {d : Nat} {post : aO} {vi : Nat → Nat → Int32} {vl : Nat → Nat → Int64} {x1 y0 : Int32} {o2 o3 : Option Value} (k1 : ¬ y0 = 0 → wp X (d + 1) k_S_judge 0 0 9 [some (.ref 0), some (.int x1), o2, o3] [] (mk vi vl) post) (k2 : y0 = 0 → wp X (d + 1) k_S_judge 0 0 7 [some (.ref 0), some (.int x1), o2, o3] [] (mk vi vl) post) : wp X (d + 1) k_S_judge 0 0 4 [some (.ref 0), some (.int x1), o2, o3] [.int y0] (mk vi vl) post :=
  wr_if_ne (off := 5) (t := 9) (by decide +kernel) (by decide) k1 k2
theorem b_S_judge_7 {X : aX} {d : Nat} {post : aO} {vi : Nat → Nat → Int32} {vl : Nat → Nat → Int64} {x1 : Int32} {o2 o3 : Option Value} (k1 : post (some (.int (-1 : Int32))) (mk vi vl)) : wp X (d + 1) k_S_judge 0 0 7 [some (.ref 0), some (.int x1), o2, o3] [] (mk vi vl) post :=
  wr_iconst (n := -1) (v := (-1 : Int32)) (by decide +kernel) (by decide) <|
  wr_ret (r := some (.int (-1 : Int32))) (Or.inr (Or.inl ⟨_, rfl, (by decide +kernel), (Or.inl rfl)⟩)) k1
theorem b_S_judge_9 {X : aX} {d : Nat} {post : aO} {vi : Nat → Nat → Int32} {vl : Nat → Nat → Int64} {x1 : Int32} {o2 o3 : Option Value} (k1 : ¬ (vi 3 0) = 0 → wp X (d + 1) k_S_judge 0 0 22 [some (.ref 0), some (.int x1), o2, o3] [] (mk vi vl) post) (k2 : (vi 3 0) = 0 → wp X (d + 1) k_S_judge 0 0 19 [some (.ref 0), some (.int x1), o2, o3] [] (mk vi vl) post) : wp X (d + 1) k_S_judge 0 0 9 [some (.ref 0), some (.int x1), o2, o3] [] (mk vi vl) post :=
  wr_aload_n (q := 0) (by decide +kernel) rfl rfl <|
  wr_getR2 (b := 3) (ci := 3) (k0 := 2) (idx := 21) lq_0 sq_0 (by decide) (by decide) lf_S_21 rfl vq_0_2 lq_3 (by decide +kernel) <|
  wr_getI (ci := 0) (k0 := 0) (idx := 118) lq_3 sq_3 (by decide) (by decide) lf_S_118 (Or.inl rfl) (by decide +kernel) <|
  wr_if_ne (off := 6) (t := 22) (by decide +kernel) (by decide) k1 k2
theorem b_S_judge_19 {X : aX} {d : Nat} {post : aO} {vi : Nat → Nat → Int32} {vl : Nat → Nat → Int64} {x1 : Int32} {o2 o3 : Option Value} (k1 : post (some (.int (-4 : Int32))) (mk vi vl)) : wp X (d + 1) k_S_judge 0 0 19 [some (.ref 0), some (.int x1), o2, o3] [] (mk vi vl) post :=
  wr_bipush (n := -4) (v := (-4 : Int32)) (by decide +kernel) (by decide) <|
  wr_ret (r := some (.int (-4 : Int32))) (Or.inr (Or.inl ⟨_, rfl, (by decide +kernel), (Or.inl rfl)⟩)) k1
theorem b_S_judge_22 {X : aX} {d : Nat} {post : aO} {vi : Nat → Nat → Int32} {vl : Nat → Nat → Int64} {x1 : Int32} {o2 o3 : Option Value} (q1 : vp_in x1 6) (k1 : CallOk X d 0 0 k_R_isMissing [.ref (42 + 2 * x1.toNatClampNeg)] (mk vi vl) (fun r N' => wp X (d + 1) k_S_judge 0 0 33 [some (.ref 0), some (.int x1), some (.ref (42 + 2 * x1.toNatClampNeg)), o3] (pR r []) N' post)) : wp X (d + 1) k_S_judge 0 0 22 [some (.ref 0), some (.int x1), o2, o3] [] (mk vi vl) post :=
  wr_aload_n (q := 0) (by decide +kernel) rfl rfl <|
  wr_getR2 (b := 1) (ci := 3) (k0 := 0) (idx := 11) lq_0 sq_0 (by decide) (by decide) lf_S_11 rfl vq_0_0 lq_1 (by decide +kernel) <|
  wr_iload_n (q := 1) (by decide +kernel) rfl rfl <|
  wr_aald2 (b := 42 + 2 * x1.toNatClampNeg) lq_1 sq_1 (Or.inl rfl) q1 (rows_v (vin_lt q1)) (rw_lt0 (rows_i (vin_lt q1))) (by decide +kernel) <|
  wr_astore_n (q := 2) (by decide +kernel) rfl (by decide) <|
  wr_aload_n (q := 2) (by decide +kernel) rfl rfl <|
  wr_invV (a := 42 + 2 * x1.toNatClampNeg) (ci := 2) (mid2 := 14) (idx := 79) (b1 := 0) (b2 := 0) (c1 := 0) (c2 := 0) (as := []) (st := []) pl_14 rfl (Nat.le_of_ble_eq_true rfl) rfl rfl (rw_lt0 (rows_i (vin_lt q1))) (rw_s0 (rows_i (vin_lt q1))) (by decide) rfl lm_S_79 im_14 is_14 (by decide +kernel) k1
theorem b_S_judge_33 {X : aX} {d : Nat} {post : aO} {vi : Nat → Nat → Int32} {vl : Nat → Nat → Int64} {x1 y0 : Int32} {x2 : Nat} {o3 : Option Value} (k1 : y0 = 0 → wp X (d + 1) k_S_judge 0 0 42 [some (.ref 0), some (.int x1), some (.ref x2), o3] [] (mk vi vl) post) (k2 : ¬ y0 = 0 → wp X (d + 1) k_S_judge 0 0 36 [some (.ref 0), some (.int x1), some (.ref x2), o3] [] (mk vi vl) post) : wp X (d + 1) k_S_judge 0 0 33 [some (.ref 0), some (.int x1), some (.ref x2), o3] [.int y0] (mk vi vl) post :=
  wr_if_eq (off := 9) (t := 42) (by decide +kernel) (by decide) k1 k2
theorem b_S_judge_36 {X : aX} {d : Nat} {post : aO} {vi : Nat → Nat → Int32} {vl : Nat → Nat → Int64} {x1 : Int32} {x2 : Nat} {o3 : Option Value} (k1 : CallOk X d 0 0 k_S_refuse [.ref 0, .int (1 : Int32)] (mk vi vl) (fun r N' => wp X (d + 1) k_S_judge 0 0 41 [some (.ref 0), some (.int x1), some (.ref x2), o3] (pR r []) N' post)) : wp X (d + 1) k_S_judge 0 0 36 [some (.ref 0), some (.int x1), some (.ref x2), o3] [] (mk vi vl) post :=
  wr_aload_n (q := 0) (by decide +kernel) rfl rfl <|
  wr_iconst (n := 1) (v := (1 : Int32)) (by decide +kernel) (by decide) <|
  wr_invV (a := 0) (ci := 3) (mid2 := 8) (idx := 64) (b1 := 0) (b2 := 0) (c1 := 0) (c2 := 0) (as := [.int (1 : Int32)]) (st := []) pl_8 rfl (Nat.le_of_ble_eq_true rfl) rfl rfl lq_0 sq_0 (by decide) rfl lm_S_64 im_8 is_8 (by decide +kernel) k1
theorem b_S_judge_41 {X : aX} {d : Nat} {post : aO} {vi : Nat → Nat → Int32} {vl : Nat → Nat → Int64} {x1 y0 : Int32} {x2 : Nat} {o3 : Option Value} (k1 : post (some (.int y0)) (mk vi vl)) : wp X (d + 1) k_S_judge 0 0 41 [some (.ref 0), some (.int x1), some (.ref x2), o3] [.int y0] (mk vi vl) post :=
  wr_ret (r := some (.int y0)) (Or.inr (Or.inl ⟨_, rfl, (by decide +kernel), (Or.inl rfl)⟩)) k1
theorem b_S_judge_42 {X : aX} {d : Nat} {post : aO} {vi : Nat → Nat → Int32} {vl : Nat → Nat → Int64} {x1 : Int32} {x2 : Nat} {o3 : Option Value} (hx2 : isRw x2) (k1 : (vi x2 1) = (vi 3 0) → wp X (d + 1) k_S_judge 0 0 62 [some (.ref 0), some (.int x1), some (.ref x2), o3] [] (mk vi vl) post) (k2 : ¬ (vi x2 1) = (vi 3 0) → wp X (d + 1) k_S_judge 0 0 56 [some (.ref 0), some (.int x1), some (.ref x2), o3] [] (mk vi vl) post) : wp X (d + 1) k_S_judge 0 0 42 [some (.ref 0), some (.int x1), some (.ref x2), o3] [] (mk vi vl) post :=
  wr_aload_n (q := 2) (by decide +kernel) rfl rfl <|
  wr_getI (ci := 2) (k0 := 1) (idx := 96) (rw_lt0 hx2) (rw_s0 hx2) (by decide) (by decide) lf_S_96 (Or.inl rfl) (by decide +kernel) <|
  wr_aload_n (q := 0) (by decide +kernel) rfl rfl <|
  wr_getR2 (b := 3) (ci := 3) (k0 := 2) (idx := 21) lq_0 sq_0 (by decide) (by decide) lf_S_21 rfl vq_0_2 lq_3 (by decide +kernel) <|
  wr_getI (ci := 0) (k0 := 0) (idx := 118) lq_3 sq_3 (by decide) (by decide) lf_S_118 (Or.inl rfl) (by decide +kernel) <|
  wr_icmp_eq (off := 9) (t := 62) (by decide +kernel) (by decide) k1 k2
theorem b_S_judge_56 {X : aX} {d : Nat} {post : aO} {vi : Nat → Nat → Int32} {vl : Nat → Nat → Int64} {x1 : Int32} {x2 : Nat} {o3 : Option Value} (k1 : CallOk X d 0 0 k_S_refuse [.ref 0, .int (5 : Int32)] (mk vi vl) (fun r N' => wp X (d + 1) k_S_judge 0 0 61 [some (.ref 0), some (.int x1), some (.ref x2), o3] (pR r []) N' post)) : wp X (d + 1) k_S_judge 0 0 56 [some (.ref 0), some (.int x1), some (.ref x2), o3] [] (mk vi vl) post :=
  wr_aload_n (q := 0) (by decide +kernel) rfl rfl <|
  wr_iconst (n := 5) (v := (5 : Int32)) (by decide +kernel) (by decide) <|
  wr_invV (a := 0) (ci := 3) (mid2 := 8) (idx := 64) (b1 := 0) (b2 := 0) (c1 := 0) (c2 := 0) (as := [.int (5 : Int32)]) (st := []) pl_8 rfl (Nat.le_of_ble_eq_true rfl) rfl rfl lq_0 sq_0 (by decide) rfl lm_S_64 im_8 is_8 (by decide +kernel) k1
theorem b_S_judge_61 {X : aX} {d : Nat} {post : aO} {vi : Nat → Nat → Int32} {vl : Nat → Nat → Int64} {x1 y0 : Int32} {x2 : Nat} {o3 : Option Value} (k1 : post (some (.int y0)) (mk vi vl)) : wp X (d + 1) k_S_judge 0 0 61 [some (.ref 0), some (.int x1), some (.ref x2), o3] [.int y0] (mk vi vl) post :=
  wr_ret (r := some (.int y0)) (Or.inr (Or.inl ⟨_, rfl, (by decide +kernel), (Or.inl rfl)⟩)) k1
theorem b_S_judge_62 {X : aX} {d : Nat} {post : aO} {vi : Nat → Nat → Int32} {vl : Nat → Nat → Int64} {x1 : Int32} {x2 : Nat} {o3 : Option Value} (k1 : wp X (d + 1) k_S_judge 0 0 64 [some (.ref 0), some (.int x1), some (.ref x2), some (.int (0 : Int32))] [] (mk vi vl) post) : wp X (d + 1) k_S_judge 0 0 62 [some (.ref 0), some (.int x1), some (.ref x2), o3] [] (mk vi vl) post :=
  wr_iconst (n := 0) (v := (0 : Int32)) (by decide +kernel) (by decide) <|
  wr_istore_n (q := 3) (by decide +kernel) rfl (by decide) <|
  k1
theorem b_S_judge_64 {X : aX} {d : Nat} {post : aO} {vi : Nat → Nat → Int32} {vl : Nat → Nat → Int64} {x1 x3 : Int32} {x2 : Nat} (k1 : (vi 3 0) ≤ x3 → wp X (d + 1) k_S_judge 0 0 104 [some (.ref 0), some (.int x1), some (.ref x2), some (.int x3)] [] (mk vi vl) post) (k2 : ¬ (vi 3 0) ≤ x3 → wp X (d + 1) k_S_judge 0 0 75 [some (.ref 0), some (.int x1), some (.ref x2), some (.int x3)] [] (mk vi vl) post) : wp X (d + 1) k_S_judge 0 0 64 [some (.ref 0), some (.int x1), some (.ref x2), some (.int x3)] [] (mk vi vl) post :=
  wr_iload_n (q := 3) (by decide +kernel) rfl rfl <|
  wr_aload_n (q := 0) (by decide +kernel) rfl rfl <|
  wr_getR2 (b := 3) (ci := 3) (k0 := 2) (idx := 21) lq_0 sq_0 (by decide) (by decide) lf_S_21 rfl vq_0_2 lq_3 (by decide +kernel) <|
  wr_getI (ci := 0) (k0 := 0) (idx := 118) lq_3 sq_3 (by decide) (by decide) lf_S_118 (Or.inl rfl) (by decide +kernel) <|
  wr_icmp_ge (off := 32) (t := 104) (by decide +kernel) (by decide) k1 k2
theorem b_S_judge_75 {X : aX} {d : Nat} {post : aO} {vi : Nat → Nat → Int32} {vl : Nat → Nat → Int64} {x1 x3 : Int32} {x2 : Nat} (hx2 : isRw x2) (q1 : vp_in x3 (rl x2)) (k1 : CallOk X d 0 0 k_C_allows [.ref 3, .int x3, .int (vi (x2 + 1) x3.toNatClampNeg)] (mk vi vl) (fun r N' => wp X (d + 1) k_S_judge 0 0 89 [some (.ref 0), some (.int x1), some (.ref x2), some (.int x3)] (pR r []) N' post)) : wp X (d + 1) k_S_judge 0 0 75 [some (.ref 0), some (.int x1), some (.ref x2), some (.int x3)] [] (mk vi vl) post :=
  wr_aload_n (q := 0) (by decide +kernel) rfl rfl <|
  wr_getR2 (b := 3) (ci := 3) (k0 := 2) (idx := 21) lq_0 sq_0 (by decide) (by decide) lf_S_21 rfl vq_0_2 lq_3 (by decide +kernel) <|
  wr_iload_n (q := 3) (by decide +kernel) rfl rfl <|
  wr_aload_n (q := 2) (by decide +kernel) rfl rfl <|
  wr_getR2 (b := x2 + 1) (ci := 2) (k0 := 0) (idx := 76) (rw_lt0 hx2) (rw_s0 hx2) (by decide) (by decide) lf_S_76 rfl (rw_v0 hx2) (rw_lt1 hx2) (by decide +kernel) <|
  wr_iload_n (q := 3) (by decide +kernel) rfl rfl <|
  wr_iald (rw_lt1 hx2) (rw_s1 hx2) q1 (by decide +kernel) <|
  wr_invV (a := 3) (ci := 0) (mid2 := 60) (idx := 206) (b1 := 0) (b2 := 0) (c1 := 0) (c2 := 0) (as := [.int x3, .int (vi (x2 + 1) x3.toNatClampNeg)]) (st := []) pl_60 rfl (Nat.le_of_ble_eq_true rfl) rfl rfl lq_3 sq_3 (by decide) rfl lm_S_206 im_60 is_60 (by decide +kernel) k1
theorem b_S_judge_89 {X : aX} {d : Nat} {post : aO} {vi : Nat → Nat → Int32} {vl : Nat → Nat → Int64} {x1 x3 y0 : Int32} {x2 : Nat} (k1 : ¬ y0 = 0 → wp X (d + 1) k_S_judge 0 0 98 [some (.ref 0), some (.int x1), some (.ref x2), some (.int x3)] [] (mk vi vl) post) (k2 : y0 = 0 → wp X (d + 1) k_S_judge 0 0 92 [some (.ref 0), some (.int x1), some (.ref x2), some (.int x3)] [] (mk vi vl) post) : wp X (d + 1) k_S_judge 0 0 89 [some (.ref 0), some (.int x1), some (.ref x2), some (.int x3)] [.int y0] (mk vi vl) post :=
  wr_if_ne (off := 9) (t := 98) (by decide +kernel) (by decide) k1 k2
theorem b_S_judge_92 {X : aX} {d : Nat} {post : aO} {vi : Nat → Nat → Int32} {vl : Nat → Nat → Int64} {x1 x3 : Int32} {x2 : Nat} (k1 : CallOk X d 0 0 k_S_refuse [.ref 0, .int (3 : Int32)] (mk vi vl) (fun r N' => wp X (d + 1) k_S_judge 0 0 97 [some (.ref 0), some (.int x1), some (.ref x2), some (.int x3)] (pR r []) N' post)) : wp X (d + 1) k_S_judge 0 0 92 [some (.ref 0), some (.int x1), some (.ref x2), some (.int x3)] [] (mk vi vl) post :=
  wr_aload_n (q := 0) (by decide +kernel) rfl rfl <|
  wr_iconst (n := 3) (v := (3 : Int32)) (by decide +kernel) (by decide) <|
  wr_invV (a := 0) (ci := 3) (mid2 := 8) (idx := 64) (b1 := 0) (b2 := 0) (c1 := 0) (c2 := 0) (as := [.int (3 : Int32)]) (st := []) pl_8 rfl (Nat.le_of_ble_eq_true rfl) rfl rfl lq_0 sq_0 (by decide) rfl lm_S_64 im_8 is_8 (by decide +kernel) k1
theorem b_S_judge_97 {X : aX} {d : Nat} {post : aO} {vi : Nat → Nat → Int32} {vl : Nat → Nat → Int64} {x1 x3 y0 : Int32} {x2 : Nat} (k1 : post (some (.int y0)) (mk vi vl)) : wp X (d + 1) k_S_judge 0 0 97 [some (.ref 0), some (.int x1), some (.ref x2), some (.int x3)] [.int y0] (mk vi vl) post :=
  wr_ret (r := some (.int y0)) (Or.inr (Or.inl ⟨_, rfl, (by decide +kernel), (Or.inl rfl)⟩)) k1
theorem b_S_judge_98 {X : aX} {d : Nat} {post : aO} {vi : Nat → Nat → Int32} {vl : Nat → Nat → Int64} {x1 x3 : Int32} {x2 : Nat} (k1 : wp X (d + 1) k_S_judge 0 0 64 [some (.ref 0), some (.int x1), some (.ref x2), some (.int (x3 + (1 : Int32)))] [] (mk vi vl) post) : wp X (d + 1) k_S_judge 0 0 98 [some (.ref 0), some (.int x1), some (.ref x2), some (.int x3)] [] (mk vi vl) post :=
  wr_iinc (i := 3) (n := 1) (v := (1 : Int32)) (by decide +kernel) rfl (by decide) (by decide) <|
  wr_goto (off := -37) (t := 64) (by decide +kernel) (by decide) k1
theorem b_S_judge_104 {X : aX} {d : Nat} {post : aO} {vi : Nat → Nat → Int32} {vl : Nat → Nat → Int64} {x1 x3 : Int32} {x2 : Nat} (k1 : CallOk X d 0 0 k_C_take [.ref 14, .ref 3] (mk vi vl) (fun r N' => wp X (d + 1) k_S_judge 0 0 115 [some (.ref 0), some (.int x1), some (.ref x2), some (.int x3)] (pR r []) N' post)) : wp X (d + 1) k_S_judge 0 0 104 [some (.ref 0), some (.int x1), some (.ref x2), some (.int x3)] [] (mk vi vl) post :=
  wr_aload_n (q := 0) (by decide +kernel) rfl rfl <|
  wr_getR2 (b := 14) (ci := 3) (k0 := 3) (idx := 25) lq_0 sq_0 (by decide) (by decide) lf_S_25 rfl vq_0_3 lq_14 (by decide +kernel) <|
  wr_aload_n (q := 0) (by decide +kernel) rfl rfl <|
  wr_getR2 (b := 3) (ci := 3) (k0 := 2) (idx := 21) lq_0 sq_0 (by decide) (by decide) lf_S_21 rfl vq_0_2 lq_3 (by decide +kernel) <|
  wr_invV (a := 14) (ci := 0) (mid2 := 38) (idx := 108) (b1 := 0) (b2 := 0) (c1 := 0) (c2 := 0) (as := [.ref 3]) (st := []) pl_38 rfl (Nat.le_of_ble_eq_true rfl) rfl rfl lq_14 sq_14 (by decide) rfl lm_S_108 im_38 is_38 (by decide +kernel) k1
theorem b_S_judge_115 {X : aX} {d : Nat} {post : aO} {vi : Nat → Nat → Int32} {vl : Nat → Nat → Int64} {x1 x3 : Int32} {x2 : Nat} (k1 : wp X (d + 1) k_S_judge 0 0 117 [some (.ref 0), some (.int x1), some (.ref x2), some (.int (0 : Int32))] [] (mk vi vl) post) : wp X (d + 1) k_S_judge 0 0 115 [some (.ref 0), some (.int x1), some (.ref x2), some (.int x3)] [] (mk vi vl) post :=
  wr_iconst (n := 0) (v := (0 : Int32)) (by decide +kernel) (by decide) <|
  wr_istore_n (q := 3) (by decide +kernel) rfl (by decide) <|
  k1
theorem b_S_judge_117 {X : aX} {d : Nat} {post : aO} {vi : Nat → Nat → Int32} {vl : Nat → Nat → Int64} {x1 x3 : Int32} {x2 : Nat} (k1 : (vi 3 0) ≤ x3 → wp X (d + 1) k_S_judge 0 0 148 [some (.ref 0), some (.int x1), some (.ref x2), some (.int x3)] [] (mk vi vl) post) (k2 : ¬ (vi 3 0) ≤ x3 → wp X (d + 1) k_S_judge 0 0 128 [some (.ref 0), some (.int x1), some (.ref x2), some (.int x3)] [] (mk vi vl) post) : wp X (d + 1) k_S_judge 0 0 117 [some (.ref 0), some (.int x1), some (.ref x2), some (.int x3)] [] (mk vi vl) post :=
  wr_iload_n (q := 3) (by decide +kernel) rfl rfl <|
  wr_aload_n (q := 0) (by decide +kernel) rfl rfl <|
  wr_getR2 (b := 3) (ci := 3) (k0 := 2) (idx := 21) lq_0 sq_0 (by decide) (by decide) lf_S_21 rfl vq_0_2 lq_3 (by decide +kernel) <|
  wr_getI (ci := 0) (k0 := 0) (idx := 118) lq_3 sq_3 (by decide) (by decide) lf_S_118 (Or.inl rfl) (by decide +kernel) <|
  wr_icmp_ge (off := 23) (t := 148) (by decide +kernel) (by decide) k1 k2
theorem b_S_judge_128 {X : aX} {d : Nat} {post : aO} {vi : Nat → Nat → Int32} {vl : Nat → Nat → Int64} {x1 x3 : Int32} {x2 : Nat} (hx2 : isRw x2) (q1 : vp_in x3 (rl x2)) (k1 : CallOk X d 0 0 k_C_change [.ref 14, .int x3, .int (vi (x2 + 1) x3.toNatClampNeg)] (mk vi vl) (fun r N' => wp X (d + 1) k_S_judge 0 0 142 [some (.ref 0), some (.int x1), some (.ref x2), some (.int x3)] (pR r []) N' post)) : wp X (d + 1) k_S_judge 0 0 128 [some (.ref 0), some (.int x1), some (.ref x2), some (.int x3)] [] (mk vi vl) post :=
  wr_aload_n (q := 0) (by decide +kernel) rfl rfl <|
  wr_getR2 (b := 14) (ci := 3) (k0 := 3) (idx := 25) lq_0 sq_0 (by decide) (by decide) lf_S_25 rfl vq_0_3 lq_14 (by decide +kernel) <|
  wr_iload_n (q := 3) (by decide +kernel) rfl rfl <|
  wr_aload_n (q := 2) (by decide +kernel) rfl rfl <|
  wr_getR2 (b := x2 + 1) (ci := 2) (k0 := 0) (idx := 76) (rw_lt0 hx2) (rw_s0 hx2) (by decide) (by decide) lf_S_76 rfl (rw_v0 hx2) (rw_lt1 hx2) (by decide +kernel) <|
  wr_iload_n (q := 3) (by decide +kernel) rfl rfl <|
  wr_iald (rw_lt1 hx2) (rw_s1 hx2) q1 (by decide +kernel) <|
  wr_invV (a := 14) (ci := 0) (mid2 := 62) (idx := 209) (b1 := 0) (b2 := 0) (c1 := 0) (c2 := 0) (as := [.int x3, .int (vi (x2 + 1) x3.toNatClampNeg)]) (st := []) pl_62 rfl (Nat.le_of_ble_eq_true rfl) rfl rfl lq_14 sq_14 (by decide) rfl lm_S_209 im_62 is_62 (by decide +kernel) k1
theorem b_S_judge_142 {X : aX} {d : Nat} {post : aO} {vi : Nat → Nat → Int32} {vl : Nat → Nat → Int64} {x1 x3 : Int32} {x2 : Nat} (k1 : wp X (d + 1) k_S_judge 0 0 117 [some (.ref 0), some (.int x1), some (.ref x2), some (.int (x3 + (1 : Int32)))] [] (mk vi vl) post) : wp X (d + 1) k_S_judge 0 0 142 [some (.ref 0), some (.int x1), some (.ref x2), some (.int x3)] [] (mk vi vl) post :=
  wr_iinc (i := 3) (n := 1) (v := (1 : Int32)) (by decide +kernel) rfl (by decide) (by decide) <|
  wr_goto (off := -28) (t := 117) (by decide +kernel) (by decide) k1
theorem b_S_judge_148 {X : aX} {d : Nat} {post : aO} {vi : Nat → Nat → Int32} {vl : Nat → Nat → Int64} {x1 x3 : Int32} {x2 : Nat} (k1 : CallOk X d 0 0 k_C_settleFrom [.ref 14, .int (0 : Int32)] (mk vi vl) (fun r N' => wp X (d + 1) k_S_judge 0 0 156 [some (.ref 0), some (.int x1), some (.ref x2), some (.int x3)] (pR r []) N' post)) : wp X (d + 1) k_S_judge 0 0 148 [some (.ref 0), some (.int x1), some (.ref x2), some (.int x3)] [] (mk vi vl) post :=
  wr_aload_n (q := 0) (by decide +kernel) rfl rfl <|
  wr_getR2 (b := 14) (ci := 3) (k0 := 3) (idx := 25) lq_0 sq_0 (by decide) (by decide) lf_S_25 rfl vq_0_3 lq_14 (by decide +kernel) <|
  wr_iconst (n := 0) (v := (0 : Int32)) (by decide +kernel) (by decide) <|
  wr_invV (a := 14) (ci := 0) (mid2 := 39) (idx := 112) (b1 := 0) (b2 := 0) (c1 := 0) (c2 := 0) (as := [.int (0 : Int32)]) (st := []) pl_39 rfl (Nat.le_of_ble_eq_true rfl) rfl rfl lq_14 sq_14 (by decide) rfl lm_S_112 im_39 is_39 (by decide +kernel) k1
theorem b_S_judge_156 {X : aX} {d : Nat} {post : aO} {vi : Nat → Nat → Int32} {vl : Nat → Nat → Int64} {x1 x3 : Int32} {x2 : Nat} (k1 : CallOk X d 0 0 k_C_yearsWithSomething [.ref 14] (mk vi vl) (fun r N' => wp X (d + 1) k_S_judge 0 0 164 [some (.ref 0), some (.int x1), some (.ref x2), some (.int x3)] (pR r [.ref 0]) N' post)) : wp X (d + 1) k_S_judge 0 0 156 [some (.ref 0), some (.int x1), some (.ref x2), some (.int x3)] [] (mk vi vl) post :=
  wr_aload_n (q := 0) (by decide +kernel) rfl rfl <|
  wr_aload_n (q := 0) (by decide +kernel) rfl rfl <|
  wr_getR2 (b := 14) (ci := 3) (k0 := 3) (idx := 25) lq_0 sq_0 (by decide) (by decide) lf_S_25 rfl vq_0_3 lq_14 (by decide +kernel) <|
  wr_invV (a := 14) (ci := 0) (mid2 := 94) (idx := 212) (b1 := 0) (b2 := 0) (c1 := 0) (c2 := 0) (as := []) (st := [.ref 0]) pl_94 rfl (Nat.le_of_ble_eq_true rfl) rfl rfl lq_14 sq_14 (by decide) rfl lm_S_212 im_94 is_94 (by decide +kernel) k1
theorem b_S_judge_164 {X : aX} {d : Nat} {post : aO} {vi : Nat → Nat → Int32} {vl : Nat → Nat → Int64} {x1 x3 y1 : Int32} {x2 : Nat} (k1 : ∀ w, w = up2 vi 0 8 y1 → wp X (d + 1) k_S_judge 0 0 167 [some (.ref 0), some (.int x1), some (.ref x2), some (.int x3)] [] (mk w vl) post) : wp X (d + 1) k_S_judge 0 0 164 [some (.ref 0), some (.int x1), some (.ref x2), some (.int x3)] [.int y1, .ref 0] (mk vi vl) post :=
  wr_putI (ci := 3) (k0 := 8) (idx := 47) lq_0 sq_0 (by decide) (by decide) lf_S_47 rfl (by decide +kernel) <|
  k1 _ rfl
theorem b_S_judge_167 {X : aX} {d : Nat} {post : aO} {vi : Nat → Nat → Int32} {vl : Nat → Nat → Int64} {x1 x3 : Int32} {x2 : Nat} (k1 : CallOk X d 0 0 k_C_brokenLaws [.ref 14] (mk vi vl) (fun r N' => wp X (d + 1) k_S_judge 0 0 174 [some (.ref 0), some (.int x1), some (.ref x2), some (.int x3)] (pR r []) N' post)) : wp X (d + 1) k_S_judge 0 0 167 [some (.ref 0), some (.int x1), some (.ref x2), some (.int x3)] [] (mk vi vl) post :=
  wr_aload_n (q := 0) (by decide +kernel) rfl rfl <|
  wr_getR2 (b := 14) (ci := 3) (k0 := 3) (idx := 25) lq_0 sq_0 (by decide) (by decide) lf_S_25 rfl vq_0_3 lq_14 (by decide +kernel) <|
  wr_invV (a := 14) (ci := 0) (mid2 := 63) (idx := 172) (b1 := 0) (b2 := 0) (c1 := 0) (c2 := 0) (as := []) (st := []) pl_63 rfl (Nat.le_of_ble_eq_true rfl) rfl rfl lq_14 sq_14 (by decide) rfl lm_S_172 im_63 is_63 (by decide +kernel) k1
theorem b_S_judge_174 {X : aX} {d : Nat} {post : aO} {vi : Nat → Nat → Int32} {vl : Nat → Nat → Int64} {x1 x3 y0 : Int32} {x2 : Nat} (k1 : CallOk X d 0 0 k_J_bitCount [.int y0] (mk vi vl) (fun r N' => wp X (d + 1) k_S_judge 0 0 177 [some (.ref 0), some (.int x1), some (.ref x2), some (.int x3)] (pR r []) N' post)) : wp X (d + 1) k_S_judge 0 0 174 [some (.ref 0), some (.int x1), some (.ref x2), some (.int x3)] [.int y0] (mk vi vl) post :=
  wr_invS (mid2 := 55) (idx := 146) (b1 := 0) (b2 := 0) (c1 := 0) (c2 := 0) (as := [.int y0]) (st := []) pl_55 rfl (Nat.le_of_ble_eq_true rfl) rfl rfl lm_S_146 it_55 (by decide +kernel) k1
theorem b_S_judge_177 {X : aX} {d : Nat} {post : aO} {vi : Nat → Nat → Int32} {vl : Nat → Nat → Int64} {x1 x3 y0 : Int32} {x2 : Nat} (k1 : post (some (.int y0)) (mk vi vl)) : wp X (d + 1) k_S_judge 0 0 177 [some (.ref 0), some (.int x1), some (.ref x2), some (.int x3)] [.int y0] (mk vi vl) post :=
  wr_ret (r := some (.int y0)) (Or.inr (Or.inl ⟨_, rfl, (by decide +kernel), (Or.inl rfl)⟩)) k1
theorem b_S_was_0 {X : aX} {d : Nat} {post : aO} {vi : Nat → Nat → Int32} {vl : Nat → Nat → Int64} {x1 x2 : Int32} (k1 : CallOk X d 0 0 k_S_isYear [.ref 0, .int x1] (mk vi vl) (fun r N' => wp X (d + 1) k_S_was 0 0 5 [some (.ref 0), some (.int x1), some (.int x2), none, none, none] (pR r []) N' post)) : wp X (d + 1) k_S_was 0 0 0 [some (.ref 0), some (.int x1), some (.int x2), none, none, none] [] (mk vi vl) post :=
  wr_aload_n (q := 0) (by decide +kernel) rfl rfl <|
  wr_iload_n (q := 1) (by decide +kernel) rfl rfl <|
  wr_invV (a := 0) (ci := 3) (mid2 := 45) (idx := 121) (b1 := 0) (b2 := 0) (c1 := 0) (c2 := 0) (as := [.int x1]) (st := []) pl_45 rfl (Nat.le_of_ble_eq_true rfl) rfl rfl lq_0 sq_0 (by decide) rfl lm_S_121 im_45 is_45 (by decide +kernel) k1
theorem b_S_was_5 {X : aX} {d : Nat} {post : aO} {vi : Nat → Nat → Int32} {vl : Nat → Nat → Int64} {x1 x2 y0 : Int32} {o3 o4 o5 : Option Value} (k1 : y0 = 0 → wp X (d + 1) k_S_was 0 0 15 [some (.ref 0), some (.int x1), some (.int x2), o3, o4, o5] [] (mk vi vl) post) (k2 : ¬ y0 = 0 → wp X (d + 1) k_S_was 0 0 8 [some (.ref 0), some (.int x1), some (.int x2), o3, o4, o5] [] (mk vi vl) post) : wp X (d + 1) k_S_was 0 0 5 [some (.ref 0), some (.int x1), some (.int x2), o3, o4, o5] [.int y0] (mk vi vl) post :=
  wr_if_eq (off := 10) (t := 15) (by decide +kernel) (by decide) k1 k2
theorem b_S_was_8 {X : aX} {d : Nat} {post : aO} {vi : Nat → Nat → Int32} {vl : Nat → Nat → Int64} {x1 x2 : Int32} {o3 o4 o5 : Option Value} (k1 : CallOk X d 0 0 k_S_isRow [.int x2] (mk vi vl) (fun r N' => wp X (d + 1) k_S_was 0 0 12 [some (.ref 0), some (.int x1), some (.int x2), o3, o4, o5] (pR r []) N' post)) : wp X (d + 1) k_S_was 0 0 8 [some (.ref 0), some (.int x1), some (.int x2), o3, o4, o5] [] (mk vi vl) post :=
  wr_iload_n (q := 2) (by decide +kernel) rfl rfl <|
  wr_invS (mid2 := 7) (idx := 60) (b1 := 0) (b2 := 0) (c1 := 0) (c2 := 0) (as := [.int x2]) (st := []) pl_7 rfl (Nat.le_of_ble_eq_true rfl) rfl rfl lm_S_60 it_7 (by decide +kernel) k1
theorem b_S_was_12 {X : aX} {d : Nat} {post : aO} {vi : Nat → Nat → Int32} {vl : Nat → Nat → Int64} {x1 x2 y0 : Int32} {o3 o4 o5 : Option Value} (k1 : ¬ y0 = 0 → wp X (d + 1) k_S_was 0 0 17 [some (.ref 0), some (.int x1), some (.int x2), o3, o4, o5] [] (mk vi vl) post) (k2 : y0 = 0 → wp X (d + 1) k_S_was 0 0 15 [some (.ref 0), some (.int x1), some (.int x2), o3, o4, o5] [] (mk vi vl) post) : wp X (d + 1) k_S_was 0 0 12 [some (.ref 0), some (.int x1), some (.int x2), o3, o4, o5] [.int y0] (mk vi vl) post :=
  wr_if_ne (off := 5) (t := 17) (by decide +kernel) (by decide) k1 k2
theorem b_S_was_15 {X : aX} {d : Nat} {post : aO} {vi : Nat → Nat → Int32} {vl : Nat → Nat → Int64} {x1 x2 : Int32} {o3 o4 o5 : Option Value} (k1 : post (some (.int (-1 : Int32))) (mk vi vl)) : wp X (d + 1) k_S_was 0 0 15 [some (.ref 0), some (.int x1), some (.int x2), o3, o4, o5] [] (mk vi vl) post :=
  wr_iconst (n := -1) (v := (-1 : Int32)) (by decide +kernel) (by decide) <|
  wr_ret (r := some (.int (-1 : Int32))) (Or.inr (Or.inl ⟨_, rfl, (by decide +kernel), (Or.inl rfl)⟩)) k1
theorem b_S_was_17 {X : aX} {d : Nat} {post : aO} {vi : Nat → Nat → Int32} {vl : Nat → Nat → Int64} {x1 x2 : Int32} {o3 o4 o5 : Option Value} (q1 : vp_in x1 5) (k1 : (vi 4 x1.toNatClampNeg) = (2 : Int32) → wp X (d + 1) k_S_was 0 0 33 [some (.ref 0), some (.int x1), some (.int x2), o3, o4, o5] [] (mk vi vl) post) (k2 : ¬ (vi 4 x1.toNatClampNeg) = (2 : Int32) → wp X (d + 1) k_S_was 0 0 30 [some (.ref 0), some (.int x1), some (.int x2), o3, o4, o5] [] (mk vi vl) post) : wp X (d + 1) k_S_was 0 0 17 [some (.ref 0), some (.int x1), some (.int x2), o3, o4, o5] [] (mk vi vl) post :=
  wr_aload_n (q := 0) (by decide +kernel) rfl rfl <|
  wr_getR2 (b := 3) (ci := 3) (k0 := 2) (idx := 21) lq_0 sq_0 (by decide) (by decide) lf_S_21 rfl vq_0_2 lq_3 (by decide +kernel) <|
  wr_getR2 (b := 4) (ci := 0) (k0 := 1) (idx := 179) lq_3 sq_3 (by decide) (by decide) lf_S_179 rfl vq_3_1 lq_4 (by decide +kernel) <|
  wr_iload_n (q := 1) (by decide +kernel) rfl rfl <|
  wr_iald lq_4 sq_4 q1 (by decide +kernel) <|
  wr_iconst (n := 2) (v := (2 : Int32)) (by decide +kernel) (by decide) <|
  wr_icmp_eq (off := 6) (t := 33) (by decide +kernel) (by decide) k1 k2
theorem b_S_was_30 {X : aX} {d : Nat} {post : aO} {vi : Nat → Nat → Int32} {vl : Nat → Nat → Int64} {x1 x2 : Int32} {o3 o4 o5 : Option Value} (k1 : post (some (.int (-4 : Int32))) (mk vi vl)) : wp X (d + 1) k_S_was 0 0 30 [some (.ref 0), some (.int x1), some (.int x2), o3, o4, o5] [] (mk vi vl) post :=
  wr_bipush (n := -4) (v := (-4 : Int32)) (by decide +kernel) (by decide) <|
  wr_ret (r := some (.int (-4 : Int32))) (Or.inr (Or.inl ⟨_, rfl, (by decide +kernel), (Or.inl rfl)⟩)) k1
theorem b_S_was_33 {X : aX} {d : Nat} {post : aO} {vi : Nat → Nat → Int32} {vl : Nat → Nat → Int64} {x1 x2 : Int32} {o3 o4 o5 : Option Value} (k1 : CallOk X d 0 0 k_S_refuseHistory [.ref 0, .int x2] (mk vi vl) (fun r N' => wp X (d + 1) k_S_was 0 0 38 [some (.ref 0), some (.int x1), some (.int x2), o3, o4, o5] (pR r []) N' post)) : wp X (d + 1) k_S_was 0 0 33 [some (.ref 0), some (.int x1), some (.int x2), o3, o4, o5] [] (mk vi vl) post :=
  wr_aload_n (q := 0) (by decide +kernel) rfl rfl <|
  wr_iload_n (q := 2) (by decide +kernel) rfl rfl <|
  wr_invV (a := 0) (ci := 3) (mid2 := 96) (idx := 215) (b1 := 0) (b2 := 0) (c1 := 0) (c2 := 0) (as := [.int x2]) (st := []) pl_96 rfl (Nat.le_of_ble_eq_true rfl) rfl rfl lq_0 sq_0 (by decide) rfl lm_S_215 im_96 is_96 (by decide +kernel) k1
theorem b_S_was_38 {X : aX} {d : Nat} {post : aO} {vi : Nat → Nat → Int32} {vl : Nat → Nat → Int64} {x1 x2 y0 : Int32} {o3 o4 o5 : Option Value} (k1 : y0 = 0 → wp X (d + 1) k_S_was 0 0 45 [some (.ref 0), some (.int x1), some (.int x2), some (.int y0), o4, o5] [] (mk vi vl) post) (k2 : ¬ y0 = 0 → wp X (d + 1) k_S_was 0 0 43 [some (.ref 0), some (.int x1), some (.int x2), some (.int y0), o4, o5] [] (mk vi vl) post) : wp X (d + 1) k_S_was 0 0 38 [some (.ref 0), some (.int x1), some (.int x2), o3, o4, o5] [.int y0] (mk vi vl) post :=
  wr_istore_n (q := 3) (by decide +kernel) rfl (by decide) <|
  wr_iload_n (q := 3) (by decide +kernel) rfl rfl <|
  wr_if_eq (off := 5) (t := 45) (by decide +kernel) (by decide) k1 k2
theorem b_S_was_43 {X : aX} {d : Nat} {post : aO} {vi : Nat → Nat → Int32} {vl : Nat → Nat → Int64} {x1 x2 x3 : Int32} {o4 o5 : Option Value} (k1 : post (some (.int x3)) (mk vi vl)) : wp X (d + 1) k_S_was 0 0 43 [some (.ref 0), some (.int x1), some (.int x2), some (.int x3), o4, o5] [] (mk vi vl) post :=
  wr_iload_n (q := 3) (by decide +kernel) rfl rfl <|
  wr_ret (r := some (.int x3)) (Or.inr (Or.inl ⟨_, rfl, (by decide +kernel), (Or.inl rfl)⟩)) k1
theorem b_S_was_45 {X : aX} {d : Nat} {post : aO} {vi : Nat → Nat → Int32} {vl : Nat → Nat → Int64} {x1 x2 x3 : Int32} {o4 o5 : Option Value} (k1 : CallOk X d 0 0 k_C_take [.ref 14, .ref 3] (mk vi vl) (fun r N' => wp X (d + 1) k_S_was 0 0 56 [some (.ref 0), some (.int x1), some (.int x2), some (.int x3), o4, o5] (pR r []) N' post)) : wp X (d + 1) k_S_was 0 0 45 [some (.ref 0), some (.int x1), some (.int x2), some (.int x3), o4, o5] [] (mk vi vl) post :=
  wr_aload_n (q := 0) (by decide +kernel) rfl rfl <|
  wr_getR2 (b := 14) (ci := 3) (k0 := 3) (idx := 25) lq_0 sq_0 (by decide) (by decide) lf_S_25 rfl vq_0_3 lq_14 (by decide +kernel) <|
  wr_aload_n (q := 0) (by decide +kernel) rfl rfl <|
  wr_getR2 (b := 3) (ci := 3) (k0 := 2) (idx := 21) lq_0 sq_0 (by decide) (by decide) lf_S_21 rfl vq_0_2 lq_3 (by decide +kernel) <|
  wr_invV (a := 14) (ci := 0) (mid2 := 38) (idx := 108) (b1 := 0) (b2 := 0) (c1 := 0) (c2 := 0) (as := [.ref 3]) (st := []) pl_38 rfl (Nat.le_of_ble_eq_true rfl) rfl rfl lq_14 sq_14 (by decide) rfl lm_S_108 im_38 is_38 (by decide +kernel) k1
theorem b_S_was_56 {X : aX} {d : Nat} {post : aO} {vi : Nat → Nat → Int32} {vl : Nat → Nat → Int64} {x1 x2 x3 : Int32} {o4 o5 : Option Value} (k1 : wp X (d + 1) k_S_was 0 0 62 [some (.ref 0), some (.int x1), some (.int x2), some (.int x3), some (.int (0 : Int32)), some (.int (0 : Int32))] [] (mk vi vl) post) : wp X (d + 1) k_S_was 0 0 56 [some (.ref 0), some (.int x1), some (.int x2), some (.int x3), o4, o5] [] (mk vi vl) post :=
  wr_iconst (n := 0) (v := (0 : Int32)) (by decide +kernel) (by decide) <|
  wr_istore (i := 4) (by decide +kernel) (by decide) <|
  wr_iconst (n := 0) (v := (0 : Int32)) (by decide +kernel) (by decide) <|
  wr_istore (i := 5) (by decide +kernel) (by decide) <|
  k1
theorem b_S_was_62 {X : aX} {d : Nat} {post : aO} {vi : Nat → Nat → Int32} {vl : Nat → Nat → Int64} {x1 x2 x3 x4 x5 : Int32} (k1 : (5 : Int32) ≤ x5 → wp X (d + 1) k_S_was 0 0 121 [some (.ref 0), some (.int x1), some (.int x2), some (.int x3), some (.int x4), some (.int x5)] [] (mk vi vl) post) (k2 : ¬ (5 : Int32) ≤ x5 → wp X (d + 1) k_S_was 0 0 68 [some (.ref 0), some (.int x1), some (.int x2), some (.int x3), some (.int x4), some (.int x5)] [] (mk vi vl) post) : wp X (d + 1) k_S_was 0 0 62 [some (.ref 0), some (.int x1), some (.int x2), some (.int x3), some (.int x4), some (.int x5)] [] (mk vi vl) post :=
  wr_iload (i := 5) (by decide +kernel) rfl <|
  wr_iconst (n := 5) (v := (5 : Int32)) (by decide +kernel) (by decide) <|
  wr_icmp_ge (off := 56) (t := 121) (by decide +kernel) (by decide) k1 k2
theorem b_S_was_68 {X : aX} {d : Nat} {post : aO} {vi : Nat → Nat → Int32} {vl : Nat → Nat → Int64} {x1 x2 x3 x4 x5 : Int32} (k1 : CallOk X d 0 0 k_C_set [.ref 14, .int x1, .int (2 : Int32), .int x5] (mk vi vl) (fun r N' => wp X (d + 1) k_S_was 0 0 79 [some (.ref 0), some (.int x1), some (.int x2), some (.int x3), some (.int x4), some (.int x5)] (pR r []) N' post)) : wp X (d + 1) k_S_was 0 0 68 [some (.ref 0), some (.int x1), some (.int x2), some (.int x3), some (.int x4), some (.int x5)] [] (mk vi vl) post :=
  wr_aload_n (q := 0) (by decide +kernel) rfl rfl <|
  wr_getR2 (b := 14) (ci := 3) (k0 := 3) (idx := 25) lq_0 sq_0 (by decide) (by decide) lf_S_25 rfl vq_0_3 lq_14 (by decide +kernel) <|
  wr_iload_n (q := 1) (by decide +kernel) rfl rfl <|
  wr_iconst (n := 2) (v := (2 : Int32)) (by decide +kernel) (by decide) <|
  wr_iload (i := 5) (by decide +kernel) rfl <|
  wr_invV (a := 14) (ci := 0) (mid2 := 33) (idx := 182) (b1 := 0) (b2 := 0) (c1 := 0) (c2 := 0) (as := [.int x1, .int (2 : Int32), .int x5]) (st := []) pl_33 rfl (Nat.le_of_ble_eq_true rfl) rfl rfl lq_14 sq_14 (by decide) rfl lm_S_182 im_33 is_33 (by decide +kernel) k1
theorem b_S_was_79 {X : aX} {d : Nat} {post : aO} {vi : Nat → Nat → Int32} {vl : Nat → Nat → Int64} {x1 x2 x3 x4 x5 : Int32} (k1 : CallOk X d 0 0 k_C_settleFrom [.ref 14, .int (0 : Int32)] (mk vi vl) (fun r N' => wp X (d + 1) k_S_was 0 0 87 [some (.ref 0), some (.int x1), some (.int x2), some (.int x3), some (.int x4), some (.int x5)] (pR r []) N' post)) : wp X (d + 1) k_S_was 0 0 79 [some (.ref 0), some (.int x1), some (.int x2), some (.int x3), some (.int x4), some (.int x5)] [] (mk vi vl) post :=
  wr_aload_n (q := 0) (by decide +kernel) rfl rfl <|
  wr_getR2 (b := 14) (ci := 3) (k0 := 3) (idx := 25) lq_0 sq_0 (by decide) (by decide) lf_S_25 rfl vq_0_3 lq_14 (by decide +kernel) <|
  wr_iconst (n := 0) (v := (0 : Int32)) (by decide +kernel) (by decide) <|
  wr_invV (a := 14) (ci := 0) (mid2 := 39) (idx := 112) (b1 := 0) (b2 := 0) (c1 := 0) (c2 := 0) (as := [.int (0 : Int32)]) (st := []) pl_39 rfl (Nat.le_of_ble_eq_true rfl) rfl rfl lq_14 sq_14 (by decide) rfl lm_S_112 im_39 is_39 (by decide +kernel) k1
theorem b_S_was_87 {X : aX} {d : Nat} {post : aO} {vi : Nat → Nat → Int32} {vl : Nat → Nat → Int64} {x1 x2 x3 x4 x5 : Int32} (q1 : vp_in x2 6) (k1 : CallOk X d 0 0 k_C_happensAs [.ref 14, .ref ((42 + 2 * x2.toNatClampNeg) + 1)] (mk vi vl) (fun r N' => wp X (d + 1) k_S_was 0 0 103 [some (.ref 0), some (.int x1), some (.int x2), some (.int x3), some (.int x4), some (.int x5)] (pR r []) N' post)) : wp X (d + 1) k_S_was 0 0 87 [some (.ref 0), some (.int x1), some (.int x2), some (.int x3), some (.int x4), some (.int x5)] [] (mk vi vl) post :=
  wr_aload_n (q := 0) (by decide +kernel) rfl rfl <|
  wr_getR2 (b := 14) (ci := 3) (k0 := 3) (idx := 25) lq_0 sq_0 (by decide) (by decide) lf_S_25 rfl vq_0_3 lq_14 (by decide +kernel) <|
  wr_aload_n (q := 0) (by decide +kernel) rfl rfl <|
  wr_getR2 (b := 1) (ci := 3) (k0 := 0) (idx := 11) lq_0 sq_0 (by decide) (by decide) lf_S_11 rfl vq_0_0 lq_1 (by decide +kernel) <|
  wr_iload_n (q := 2) (by decide +kernel) rfl rfl <|
  wr_aald2 (b := 42 + 2 * x2.toNatClampNeg) lq_1 sq_1 (Or.inl rfl) q1 (rows_v (vin_lt q1)) (rw_lt0 (rows_i (vin_lt q1))) (by decide +kernel) <|
  wr_getR2 (b := (42 + 2 * x2.toNatClampNeg) + 1) (ci := 2) (k0 := 0) (idx := 76) (rw_lt0 (rows_i (vin_lt q1))) (rw_s0 (rows_i (vin_lt q1))) (by decide) (by decide) lf_S_76 rfl (rw_v0 (rows_i (vin_lt q1))) (rw_lt1 (rows_i (vin_lt q1))) (by decide +kernel) <|
  wr_invV (a := 14) (ci := 0) (mid2 := 97) (idx := 218) (b1 := 0) (b2 := 0) (c1 := 0) (c2 := 0) (as := [.ref ((42 + 2 * x2.toNatClampNeg) + 1)]) (st := []) pl_97 rfl (Nat.le_of_ble_eq_true rfl) rfl rfl lq_14 sq_14 (by decide) rfl lm_S_218 im_97 is_97 (by decide +kernel) k1
theorem b_S_was_103 {X : aX} {d : Nat} {post : aO} {vi : Nat → Nat → Int32} {vl : Nat → Nat → Int64} {x1 x2 x3 x4 x5 y0 : Int32} (k1 : y0 = 0 → wp X (d + 1) k_S_was 0 0 115 [some (.ref 0), some (.int x1), some (.int x2), some (.int x3), some (.int x4), some (.int x5)] [] (mk vi vl) post) (k2 : ¬ y0 = 0 → wp X (d + 1) k_S_was 0 0 106 [some (.ref 0), some (.int x1), some (.int x2), some (.int x3), some (.int x4), some (.int x5)] [] (mk vi vl) post) : wp X (d + 1) k_S_was 0 0 103 [some (.ref 0), some (.int x1), some (.int x2), some (.int x3), some (.int x4), some (.int x5)] [.int y0] (mk vi vl) post :=
  wr_if_eq (off := 12) (t := 115) (by decide +kernel) (by decide) k1 k2
theorem b_S_was_106 {X : aX} {d : Nat} {post : aO} {vi : Nat → Nat → Int32} {vl : Nat → Nat → Int64} {x1 x2 x3 x4 x5 : Int32} (k1 : wp X (d + 1) k_S_was 0 0 115 [some (.ref 0), some (.int x1), some (.int x2), some (.int x3), some (.int (x4 ||| ((1 : Int32) <<< (x5 &&& 31)))), some (.int x5)] [] (mk vi vl) post) : wp X (d + 1) k_S_was 0 0 106 [some (.ref 0), some (.int x1), some (.int x2), some (.int x3), some (.int x4), some (.int x5)] [] (mk vi vl) post :=
  wr_iload (i := 4) (by decide +kernel) rfl <|
  wr_iconst (n := 1) (v := (1 : Int32)) (by decide +kernel) (by decide) <|
  wr_iload (i := 5) (by decide +kernel) rfl <|
  wr_ishl (by decide +kernel) <|
  wr_ior (by decide +kernel) <|
  wr_istore (i := 4) (by decide +kernel) (by decide) <|
  k1
theorem b_S_was_115 {X : aX} {d : Nat} {post : aO} {vi : Nat → Nat → Int32} {vl : Nat → Nat → Int64} {x1 x2 x3 x4 x5 : Int32} (k1 : wp X (d + 1) k_S_was 0 0 62 [some (.ref 0), some (.int x1), some (.int x2), some (.int x3), some (.int x4), some (.int (x5 + (1 : Int32)))] [] (mk vi vl) post) : wp X (d + 1) k_S_was 0 0 115 [some (.ref 0), some (.int x1), some (.int x2), some (.int x3), some (.int x4), some (.int x5)] [] (mk vi vl) post :=
  wr_iinc (i := 5) (n := 1) (v := (1 : Int32)) (by decide +kernel) rfl (by decide) (by decide) <|
  wr_goto (off := -56) (t := 62) (by decide +kernel) (by decide) k1
theorem b_S_was_121 {X : aX} {d : Nat} {post : aO} {vi : Nat → Nat → Int32} {vl : Nat → Nat → Int64} {x1 x2 x3 x4 x5 : Int32} (k1 : post (some (.int x4)) (mk vi vl)) : wp X (d + 1) k_S_was 0 0 121 [some (.ref 0), some (.int x1), some (.int x2), some (.int x3), some (.int x4), some (.int x5)] [] (mk vi vl) post :=
  wr_iload (i := 4) (by decide +kernel) rfl <|
  wr_ret (r := some (.int x4)) (Or.inr (Or.inl ⟨_, rfl, (by decide +kernel), (Or.inl rfl)⟩)) k1
theorem b_S_refuseHistory_0 {X : aX} {d : Nat} {post : aO} {vi : Nat → Nat → Int32} {vl : Nat → Nat → Int64} {x1 : Int32} (q1 : vp_in x1 6) (k1 : CallOk X d 0 0 k_R_isMissing [.ref (42 + 2 * x1.toNatClampNeg)] (mk vi vl) (fun r N' => wp X (d + 1) k_S_refuseHistory 0 0 11 [some (.ref 0), some (.int x1), some (.ref (42 + 2 * x1.toNatClampNeg)), none, none] (pR r []) N' post)) : wp X (d + 1) k_S_refuseHistory 0 0 0 [some (.ref 0), some (.int x1), none, none, none] [] (mk vi vl) post :=
  wr_aload_n (q := 0) (by decide +kernel) rfl rfl <|
  wr_getR2 (b := 1) (ci := 3) (k0 := 0) (idx := 11) lq_0 sq_0 (by decide) (by decide) lf_S_11 rfl vq_0_0 lq_1 (by decide +kernel) <|
  wr_iload_n (q := 1) (by decide +kernel) rfl rfl <|
  wr_aald2 (b := 42 + 2 * x1.toNatClampNeg) lq_1 sq_1 (Or.inl rfl) q1 (rows_v (vin_lt q1)) (rw_lt0 (rows_i (vin_lt q1))) (by decide +kernel) <|
  wr_astore_n (q := 2) (by decide +kernel) rfl (by decide) <|
  wr_aload_n (q := 2) (by decide +kernel) rfl rfl <|
  wr_invV (a := 42 + 2 * x1.toNatClampNeg) (ci := 2) (mid2 := 14) (idx := 79) (b1 := 0) (b2 := 0) (c1 := 0) (c2 := 0) (as := []) (st := []) pl_14 rfl (Nat.le_of_ble_eq_true rfl) rfl rfl (rw_lt0 (rows_i (vin_lt q1))) (rw_s0 (rows_i (vin_lt q1))) (by decide) rfl lm_S_79 im_14 is_14 (by decide +kernel) k1
theorem b_S_refuseHistory_11 {X : aX} {d : Nat} {post : aO} {vi : Nat → Nat → Int32} {vl : Nat → Nat → Int64} {x1 y0 : Int32} {x2 : Nat} {o3 o4 : Option Value} (k1 : y0 = 0 → wp X (d + 1) k_S_refuseHistory 0 0 20 [some (.ref 0), some (.int x1), some (.ref x2), o3, o4] [] (mk vi vl) post) (k2 : ¬ y0 = 0 → wp X (d + 1) k_S_refuseHistory 0 0 14 [some (.ref 0), some (.int x1), some (.ref x2), o3, o4] [] (mk vi vl) post) : wp X (d + 1) k_S_refuseHistory 0 0 11 [some (.ref 0), some (.int x1), some (.ref x2), o3, o4] [.int y0] (mk vi vl) post :=
  wr_if_eq (off := 9) (t := 20) (by decide +kernel) (by decide) k1 k2
theorem b_S_refuseHistory_14 {X : aX} {d : Nat} {post : aO} {vi : Nat → Nat → Int32} {vl : Nat → Nat → Int64} {x1 : Int32} {x2 : Nat} {o3 o4 : Option Value} (k1 : CallOk X d 0 0 k_S_refuse [.ref 0, .int (1 : Int32)] (mk vi vl) (fun r N' => wp X (d + 1) k_S_refuseHistory 0 0 19 [some (.ref 0), some (.int x1), some (.ref x2), o3, o4] (pR r []) N' post)) : wp X (d + 1) k_S_refuseHistory 0 0 14 [some (.ref 0), some (.int x1), some (.ref x2), o3, o4] [] (mk vi vl) post :=
  wr_aload_n (q := 0) (by decide +kernel) rfl rfl <|
  wr_iconst (n := 1) (v := (1 : Int32)) (by decide +kernel) (by decide) <|
  wr_invV (a := 0) (ci := 3) (mid2 := 8) (idx := 64) (b1 := 0) (b2 := 0) (c1 := 0) (c2 := 0) (as := [.int (1 : Int32)]) (st := []) pl_8 rfl (Nat.le_of_ble_eq_true rfl) rfl rfl lq_0 sq_0 (by decide) rfl lm_S_64 im_8 is_8 (by decide +kernel) k1
theorem b_S_refuseHistory_19 {X : aX} {d : Nat} {post : aO} {vi : Nat → Nat → Int32} {vl : Nat → Nat → Int64} {x1 y0 : Int32} {x2 : Nat} {o3 o4 : Option Value} (k1 : post (some (.int y0)) (mk vi vl)) : wp X (d + 1) k_S_refuseHistory 0 0 19 [some (.ref 0), some (.int x1), some (.ref x2), o3, o4] [.int y0] (mk vi vl) post :=
  wr_ret (r := some (.int y0)) (Or.inr (Or.inl ⟨_, rfl, (by decide +kernel), (Or.inl rfl)⟩)) k1
theorem b_S_refuseHistory_20 {X : aX} {d : Nat} {post : aO} {vi : Nat → Nat → Int32} {vl : Nat → Nat → Int64} {x1 : Int32} {x2 : Nat} {o3 o4 : Option Value} (hx2 : isRw x2) (k1 : (vi x2 1) = (vi 3 0) → wp X (d + 1) k_S_refuseHistory 0 0 40 [some (.ref 0), some (.int x1), some (.ref x2), o3, o4] [] (mk vi vl) post) (k2 : ¬ (vi x2 1) = (vi 3 0) → wp X (d + 1) k_S_refuseHistory 0 0 34 [some (.ref 0), some (.int x1), some (.ref x2), o3, o4] [] (mk vi vl) post) : wp X (d + 1) k_S_refuseHistory 0 0 20 [some (.ref 0), some (.int x1), some (.ref x2), o3, o4] [] (mk vi vl) post :=
  wr_aload_n (q := 2) (by decide +kernel) rfl rfl <|
  wr_getI (ci := 2) (k0 := 1) (idx := 96) (rw_lt0 hx2) (rw_s0 hx2) (by decide) (by decide) lf_S_96 (Or.inl rfl) (by decide +kernel) <|
  wr_aload_n (q := 0) (by decide +kernel) rfl rfl <|
  wr_getR2 (b := 3) (ci := 3) (k0 := 2) (idx := 21) lq_0 sq_0 (by decide) (by decide) lf_S_21 rfl vq_0_2 lq_3 (by decide +kernel) <|
  wr_getI (ci := 0) (k0 := 0) (idx := 118) lq_3 sq_3 (by decide) (by decide) lf_S_118 (Or.inl rfl) (by decide +kernel) <|
  wr_icmp_eq (off := 9) (t := 40) (by decide +kernel) (by decide) k1 k2
theorem b_S_refuseHistory_34 {X : aX} {d : Nat} {post : aO} {vi : Nat → Nat → Int32} {vl : Nat → Nat → Int64} {x1 : Int32} {x2 : Nat} {o3 o4 : Option Value} (k1 : CallOk X d 0 0 k_S_refuse [.ref 0, .int (5 : Int32)] (mk vi vl) (fun r N' => wp X (d + 1) k_S_refuseHistory 0 0 39 [some (.ref 0), some (.int x1), some (.ref x2), o3, o4] (pR r []) N' post)) : wp X (d + 1) k_S_refuseHistory 0 0 34 [some (.ref 0), some (.int x1), some (.ref x2), o3, o4] [] (mk vi vl) post :=
  wr_aload_n (q := 0) (by decide +kernel) rfl rfl <|
  wr_iconst (n := 5) (v := (5 : Int32)) (by decide +kernel) (by decide) <|
  wr_invV (a := 0) (ci := 3) (mid2 := 8) (idx := 64) (b1 := 0) (b2 := 0) (c1 := 0) (c2 := 0) (as := [.int (5 : Int32)]) (st := []) pl_8 rfl (Nat.le_of_ble_eq_true rfl) rfl rfl lq_0 sq_0 (by decide) rfl lm_S_64 im_8 is_8 (by decide +kernel) k1
theorem b_S_refuseHistory_39 {X : aX} {d : Nat} {post : aO} {vi : Nat → Nat → Int32} {vl : Nat → Nat → Int64} {x1 y0 : Int32} {x2 : Nat} {o3 o4 : Option Value} (k1 : post (some (.int y0)) (mk vi vl)) : wp X (d + 1) k_S_refuseHistory 0 0 39 [some (.ref 0), some (.int x1), some (.ref x2), o3, o4] [.int y0] (mk vi vl) post :=
  wr_ret (r := some (.int y0)) (Or.inr (Or.inl ⟨_, rfl, (by decide +kernel), (Or.inl rfl)⟩)) k1
theorem b_S_refuseHistory_40 {X : aX} {d : Nat} {post : aO} {vi : Nat → Nat → Int32} {vl : Nat → Nat → Int64} {x1 : Int32} {x2 : Nat} {o3 o4 : Option Value} (k1 : wp X (d + 1) k_S_refuseHistory 0 0 42 [some (.ref 0), some (.int x1), some (.ref x2), some (.int (0 : Int32)), o4] [] (mk vi vl) post) : wp X (d + 1) k_S_refuseHistory 0 0 40 [some (.ref 0), some (.int x1), some (.ref x2), o3, o4] [] (mk vi vl) post :=
  wr_iconst (n := 0) (v := (0 : Int32)) (by decide +kernel) (by decide) <|
  wr_istore_n (q := 3) (by decide +kernel) rfl (by decide) <|
  k1
theorem b_S_refuseHistory_42 {X : aX} {d : Nat} {post : aO} {vi : Nat → Nat → Int32} {vl : Nat → Nat → Int64} {x1 x3 : Int32} {x2 : Nat} {o4 : Option Value} (hx2 : isRw x2) (k1 : (vi x2 1) ≤ x3 → wp X (d + 1) k_S_refuseHistory 0 0 85 [some (.ref 0), some (.int x1), some (.ref x2), some (.int x3), o4] [] (mk vi vl) post) (k2 : ¬ (vi x2 1) ≤ x3 → wp X (d + 1) k_S_refuseHistory 0 0 50 [some (.ref 0), some (.int x1), some (.ref x2), some (.int x3), o4] [] (mk vi vl) post) : wp X (d + 1) k_S_refuseHistory 0 0 42 [some (.ref 0), some (.int x1), some (.ref x2), some (.int x3), o4] [] (mk vi vl) post :=
  wr_iload_n (q := 3) (by decide +kernel) rfl rfl <|
  wr_aload_n (q := 2) (by decide +kernel) rfl rfl <|
  wr_getI (ci := 2) (k0 := 1) (idx := 96) (rw_lt0 hx2) (rw_s0 hx2) (by decide) (by decide) lf_S_96 (Or.inl rfl) (by decide +kernel) <|
  wr_icmp_ge (off := 38) (t := 85) (by decide +kernel) (by decide) k1 k2
theorem b_S_refuseHistory_50 {X : aX} {d : Nat} {post : aO} {vi : Nat → Nat → Int32} {vl : Nat → Nat → Int64} {x1 x3 : Int32} {x2 : Nat} {o4 : Option Value} (hx2 : isRw x2) (q1 : vp_in x3 (rl x2)) (k1 : (vi (x2 + 1) x3.toNatClampNeg) = (-9 : Int32) → wp X (d + 1) k_S_refuseHistory 0 0 79 [some (.ref 0), some (.int x1), some (.ref x2), some (.int x3), some (.int (vi (x2 + 1) x3.toNatClampNeg))] [] (mk vi vl) post) (k2 : ¬ (vi (x2 + 1) x3.toNatClampNeg) = (-9 : Int32) → wp X (d + 1) k_S_refuseHistory 0 0 65 [some (.ref 0), some (.int x1), some (.ref x2), some (.int x3), some (.int (vi (x2 + 1) x3.toNatClampNeg))] [] (mk vi vl) post) : wp X (d + 1) k_S_refuseHistory 0 0 50 [some (.ref 0), some (.int x1), some (.ref x2), some (.int x3), o4] [] (mk vi vl) post :=
  wr_aload_n (q := 2) (by decide +kernel) rfl rfl <|
  wr_getR2 (b := x2 + 1) (ci := 2) (k0 := 0) (idx := 76) (rw_lt0 hx2) (rw_s0 hx2) (by decide) (by decide) lf_S_76 rfl (rw_v0 hx2) (rw_lt1 hx2) (by decide +kernel) <|
  wr_iload_n (q := 3) (by decide +kernel) rfl rfl <|
  wr_iald (rw_lt1 hx2) (rw_s1 hx2) q1 (by decide +kernel) <|
  wr_istore (i := 4) (by decide +kernel) (by decide) <|
  wr_iload (i := 4) (by decide +kernel) rfl <|
  wr_bipush (n := -9) (v := (-9 : Int32)) (by decide +kernel) (by decide) <|
  wr_icmp_eq (off := 17) (t := 79) (by decide +kernel) (by decide) k1 k2
theorem b_S_refuseHistory_65 {X : aX} {d : Nat} {post : aO} {vi : Nat → Nat → Int32} {vl : Nat → Nat → Int64} {x1 x3 x4 : Int32} {x2 : Nat} (k1 : CallOk X d 0 0 k_S_isScene [.int x4] (mk vi vl) (fun r N' => wp X (d + 1) k_S_refuseHistory 0 0 70 [some (.ref 0), some (.int x1), some (.ref x2), some (.int x3), some (.int x4)] (pR r []) N' post)) : wp X (d + 1) k_S_refuseHistory 0 0 65 [some (.ref 0), some (.int x1), some (.ref x2), some (.int x3), some (.int x4)] [] (mk vi vl) post :=
  wr_iload (i := 4) (by decide +kernel) rfl <|
  wr_invS (mid2 := 31) (idx := 154) (b1 := 0) (b2 := 0) (c1 := 0) (c2 := 0) (as := [.int x4]) (st := []) pl_31 rfl (Nat.le_of_ble_eq_true rfl) rfl rfl lm_S_154 it_31 (by decide +kernel) k1
theorem b_S_refuseHistory_70 {X : aX} {d : Nat} {post : aO} {vi : Nat → Nat → Int32} {vl : Nat → Nat → Int64} {x1 x3 x4 y0 : Int32} {x2 : Nat} (k1 : ¬ y0 = 0 → wp X (d + 1) k_S_refuseHistory 0 0 79 [some (.ref 0), some (.int x1), some (.ref x2), some (.int x3), some (.int x4)] [] (mk vi vl) post) (k2 : y0 = 0 → wp X (d + 1) k_S_refuseHistory 0 0 73 [some (.ref 0), some (.int x1), some (.ref x2), some (.int x3), some (.int x4)] [] (mk vi vl) post) : wp X (d + 1) k_S_refuseHistory 0 0 70 [some (.ref 0), some (.int x1), some (.ref x2), some (.int x3), some (.int x4)] [.int y0] (mk vi vl) post :=
  wr_if_ne (off := 9) (t := 79) (by decide +kernel) (by decide) k1 k2
theorem b_S_refuseHistory_73 {X : aX} {d : Nat} {post : aO} {vi : Nat → Nat → Int32} {vl : Nat → Nat → Int64} {x1 x3 x4 : Int32} {x2 : Nat} (k1 : CallOk X d 0 0 k_S_refuse [.ref 0, .int (3 : Int32)] (mk vi vl) (fun r N' => wp X (d + 1) k_S_refuseHistory 0 0 78 [some (.ref 0), some (.int x1), some (.ref x2), some (.int x3), some (.int x4)] (pR r []) N' post)) : wp X (d + 1) k_S_refuseHistory 0 0 73 [some (.ref 0), some (.int x1), some (.ref x2), some (.int x3), some (.int x4)] [] (mk vi vl) post :=
  wr_aload_n (q := 0) (by decide +kernel) rfl rfl <|
  wr_iconst (n := 3) (v := (3 : Int32)) (by decide +kernel) (by decide) <|
  wr_invV (a := 0) (ci := 3) (mid2 := 8) (idx := 64) (b1 := 0) (b2 := 0) (c1 := 0) (c2 := 0) (as := [.int (3 : Int32)]) (st := []) pl_8 rfl (Nat.le_of_ble_eq_true rfl) rfl rfl lq_0 sq_0 (by decide) rfl lm_S_64 im_8 is_8 (by decide +kernel) k1
theorem b_S_refuseHistory_78 {X : aX} {d : Nat} {post : aO} {vi : Nat → Nat → Int32} {vl : Nat → Nat → Int64} {x1 x3 x4 y0 : Int32} {x2 : Nat} (k1 : post (some (.int y0)) (mk vi vl)) : wp X (d + 1) k_S_refuseHistory 0 0 78 [some (.ref 0), some (.int x1), some (.ref x2), some (.int x3), some (.int x4)] [.int y0] (mk vi vl) post :=
  wr_ret (r := some (.int y0)) (Or.inr (Or.inl ⟨_, rfl, (by decide +kernel), (Or.inl rfl)⟩)) k1
theorem b_S_refuseHistory_79 {X : aX} {d : Nat} {post : aO} {vi : Nat → Nat → Int32} {vl : Nat → Nat → Int64} {x1 x3 x4 : Int32} {x2 : Nat} (k1 : wp X (d + 1) k_S_refuseHistory 0 0 42 [some (.ref 0), some (.int x1), some (.ref x2), some (.int (x3 + (1 : Int32))), some (.int x4)] [] (mk vi vl) post) : wp X (d + 1) k_S_refuseHistory 0 0 79 [some (.ref 0), some (.int x1), some (.ref x2), some (.int x3), some (.int x4)] [] (mk vi vl) post :=
  wr_iinc (i := 3) (n := 1) (v := (1 : Int32)) (by decide +kernel) rfl (by decide) (by decide) <|
  wr_goto (off := -40) (t := 42) (by decide +kernel) (by decide) k1
theorem b_S_refuseHistory_85 {X : aX} {d : Nat} {post : aO} {vi : Nat → Nat → Int32} {vl : Nat → Nat → Int64} {x1 x3 : Int32} {x2 : Nat} {o4 : Option Value} (k1 : post (some (.int (0 : Int32))) (mk vi vl)) : wp X (d + 1) k_S_refuseHistory 0 0 85 [some (.ref 0), some (.int x1), some (.ref x2), some (.int x3), o4] [] (mk vi vl) post :=
  wr_iconst (n := 0) (v := (0 : Int32)) (by decide +kernel) (by decide) <|
  wr_ret (r := some (.int (0 : Int32))) (Or.inr (Or.inl ⟨_, rfl, (by decide +kernel), (Or.inl rfl)⟩)) k1
theorem b_S_kinds_0 {X : aX} {d : Nat} {post : aO} {vi : Nat → Nat → Int32} {vl : Nat → Nat → Int64} {x1 x2 : Int32} (k1 : CallOk X d 0 0 k_S_isLaw [.ref 0, .int x1] (mk vi vl) (fun r N' => wp X (d + 1) k_S_kinds 0 0 5 [some (.ref 0), some (.int x1), some (.int x2), none, none, none] (pR r []) N' post)) : wp X (d + 1) k_S_kinds 0 0 0 [some (.ref 0), some (.int x1), some (.int x2), none, none, none] [] (mk vi vl) post :=
  wr_aload_n (q := 0) (by decide +kernel) rfl rfl <|
  wr_iload_n (q := 1) (by decide +kernel) rfl rfl <|
  wr_invV (a := 0) (ci := 3) (mid2 := 48) (idx := 128) (b1 := 0) (b2 := 0) (c1 := 0) (c2 := 0) (as := [.int x1]) (st := []) pl_48 rfl (Nat.le_of_ble_eq_true rfl) rfl rfl lq_0 sq_0 (by decide) rfl lm_S_128 im_48 is_48 (by decide +kernel) k1
theorem b_S_kinds_5 {X : aX} {d : Nat} {post : aO} {vi : Nat → Nat → Int32} {vl : Nat → Nat → Int64} {x1 x2 y0 : Int32} {o3 o4 o5 : Option Value} (k1 : y0 = 0 → wp X (d + 1) k_S_kinds 0 0 15 [some (.ref 0), some (.int x1), some (.int x2), o3, o4, o5] [] (mk vi vl) post) (k2 : ¬ y0 = 0 → wp X (d + 1) k_S_kinds 0 0 8 [some (.ref 0), some (.int x1), some (.int x2), o3, o4, o5] [] (mk vi vl) post) : wp X (d + 1) k_S_kinds 0 0 5 [some (.ref 0), some (.int x1), some (.int x2), o3, o4, o5] [.int y0] (mk vi vl) post :=
  wr_if_eq (off := 10) (t := 15) (by decide +kernel) (by decide) k1 k2
theorem b_S_kinds_8 {X : aX} {d : Nat} {post : aO} {vi : Nat → Nat → Int32} {vl : Nat → Nat → Int64} {x1 x2 : Int32} {o3 o4 o5 : Option Value} (k1 : CallOk X d 0 0 k_S_isRow [.int x2] (mk vi vl) (fun r N' => wp X (d + 1) k_S_kinds 0 0 12 [some (.ref 0), some (.int x1), some (.int x2), o3, o4, o5] (pR r []) N' post)) : wp X (d + 1) k_S_kinds 0 0 8 [some (.ref 0), some (.int x1), some (.int x2), o3, o4, o5] [] (mk vi vl) post :=
  wr_iload_n (q := 2) (by decide +kernel) rfl rfl <|
  wr_invS (mid2 := 7) (idx := 60) (b1 := 0) (b2 := 0) (c1 := 0) (c2 := 0) (as := [.int x2]) (st := []) pl_7 rfl (Nat.le_of_ble_eq_true rfl) rfl rfl lm_S_60 it_7 (by decide +kernel) k1
theorem b_S_kinds_12 {X : aX} {d : Nat} {post : aO} {vi : Nat → Nat → Int32} {vl : Nat → Nat → Int64} {x1 x2 y0 : Int32} {o3 o4 o5 : Option Value} (k1 : ¬ y0 = 0 → wp X (d + 1) k_S_kinds 0 0 17 [some (.ref 0), some (.int x1), some (.int x2), o3, o4, o5] [] (mk vi vl) post) (k2 : y0 = 0 → wp X (d + 1) k_S_kinds 0 0 15 [some (.ref 0), some (.int x1), some (.int x2), o3, o4, o5] [] (mk vi vl) post) : wp X (d + 1) k_S_kinds 0 0 12 [some (.ref 0), some (.int x1), some (.int x2), o3, o4, o5] [.int y0] (mk vi vl) post :=
  wr_if_ne (off := 5) (t := 17) (by decide +kernel) (by decide) k1 k2
theorem b_S_kinds_15 {X : aX} {d : Nat} {post : aO} {vi : Nat → Nat → Int32} {vl : Nat → Nat → Int64} {x1 x2 : Int32} {o3 o4 o5 : Option Value} (k1 : post (some (.int (-1 : Int32))) (mk vi vl)) : wp X (d + 1) k_S_kinds 0 0 15 [some (.ref 0), some (.int x1), some (.int x2), o3, o4, o5] [] (mk vi vl) post :=
  wr_iconst (n := -1) (v := (-1 : Int32)) (by decide +kernel) (by decide) <|
  wr_ret (r := some (.int (-1 : Int32))) (Or.inr (Or.inl ⟨_, rfl, (by decide +kernel), (Or.inl rfl)⟩)) k1
theorem b_S_kinds_17 {X : aX} {d : Nat} {post : aO} {vi : Nat → Nat → Int32} {vl : Nat → Nat → Int64} {x1 x2 : Int32} {o3 o4 o5 : Option Value} (k1 : CallOk X d 0 0 k_S_refuseHistory [.ref 0, .int x2] (mk vi vl) (fun r N' => wp X (d + 1) k_S_kinds 0 0 22 [some (.ref 0), some (.int x1), some (.int x2), o3, o4, o5] (pR r []) N' post)) : wp X (d + 1) k_S_kinds 0 0 17 [some (.ref 0), some (.int x1), some (.int x2), o3, o4, o5] [] (mk vi vl) post :=
  wr_aload_n (q := 0) (by decide +kernel) rfl rfl <|
  wr_iload_n (q := 2) (by decide +kernel) rfl rfl <|
  wr_invV (a := 0) (ci := 3) (mid2 := 96) (idx := 215) (b1 := 0) (b2 := 0) (c1 := 0) (c2 := 0) (as := [.int x2]) (st := []) pl_96 rfl (Nat.le_of_ble_eq_true rfl) rfl rfl lq_0 sq_0 (by decide) rfl lm_S_215 im_96 is_96 (by decide +kernel) k1
theorem b_S_kinds_22 {X : aX} {d : Nat} {post : aO} {vi : Nat → Nat → Int32} {vl : Nat → Nat → Int64} {x1 x2 y0 : Int32} {o3 o4 o5 : Option Value} (k1 : y0 = 0 → wp X (d + 1) k_S_kinds 0 0 29 [some (.ref 0), some (.int x1), some (.int x2), some (.int y0), o4, o5] [] (mk vi vl) post) (k2 : ¬ y0 = 0 → wp X (d + 1) k_S_kinds 0 0 27 [some (.ref 0), some (.int x1), some (.int x2), some (.int y0), o4, o5] [] (mk vi vl) post) : wp X (d + 1) k_S_kinds 0 0 22 [some (.ref 0), some (.int x1), some (.int x2), o3, o4, o5] [.int y0] (mk vi vl) post :=
  wr_istore_n (q := 3) (by decide +kernel) rfl (by decide) <|
  wr_iload_n (q := 3) (by decide +kernel) rfl rfl <|
  wr_if_eq (off := 5) (t := 29) (by decide +kernel) (by decide) k1 k2
theorem b_S_kinds_27 {X : aX} {d : Nat} {post : aO} {vi : Nat → Nat → Int32} {vl : Nat → Nat → Int64} {x1 x2 x3 : Int32} {o4 o5 : Option Value} (k1 : post (some (.int x3)) (mk vi vl)) : wp X (d + 1) k_S_kinds 0 0 27 [some (.ref 0), some (.int x1), some (.int x2), some (.int x3), o4, o5] [] (mk vi vl) post :=
  wr_iload_n (q := 3) (by decide +kernel) rfl rfl <|
  wr_ret (r := some (.int x3)) (Or.inr (Or.inl ⟨_, rfl, (by decide +kernel), (Or.inl rfl)⟩)) k1
theorem b_S_kinds_29 {X : aX} {d : Nat} {post : aO} {vi : Nat → Nat → Int32} {vl : Nat → Nat → Int64} {x1 x2 x3 : Int32} {o4 o5 : Option Value} (k1 : CallOk X d 0 0 k_C_take [.ref 14, .ref 3] (mk vi vl) (fun r N' => wp X (d + 1) k_S_kinds 0 0 40 [some (.ref 0), some (.int x1), some (.int x2), some (.int x3), o4, o5] (pR r []) N' post)) : wp X (d + 1) k_S_kinds 0 0 29 [some (.ref 0), some (.int x1), some (.int x2), some (.int x3), o4, o5] [] (mk vi vl) post :=
  wr_aload_n (q := 0) (by decide +kernel) rfl rfl <|
  wr_getR2 (b := 14) (ci := 3) (k0 := 3) (idx := 25) lq_0 sq_0 (by decide) (by decide) lf_S_25 rfl vq_0_3 lq_14 (by decide +kernel) <|
  wr_aload_n (q := 0) (by decide +kernel) rfl rfl <|
  wr_getR2 (b := 3) (ci := 3) (k0 := 2) (idx := 21) lq_0 sq_0 (by decide) (by decide) lf_S_21 rfl vq_0_2 lq_3 (by decide +kernel) <|
  wr_invV (a := 14) (ci := 0) (mid2 := 38) (idx := 108) (b1 := 0) (b2 := 0) (c1 := 0) (c2 := 0) (as := [.ref 3]) (st := []) pl_38 rfl (Nat.le_of_ble_eq_true rfl) rfl rfl lq_14 sq_14 (by decide) rfl lm_S_108 im_38 is_38 (by decide +kernel) k1
theorem b_S_kinds_40 {X : aX} {d : Nat} {post : aO} {vi : Nat → Nat → Int32} {vl : Nat → Nat → Int64} {x1 x2 x3 : Int32} {o4 o5 : Option Value} (k1 : wp X (d + 1) k_S_kinds 0 0 46 [some (.ref 0), some (.int x1), some (.int x2), some (.int x3), some (.int (0 : Int32)), some (.int (0 : Int32))] [] (mk vi vl) post) : wp X (d + 1) k_S_kinds 0 0 40 [some (.ref 0), some (.int x1), some (.int x2), some (.int x3), o4, o5] [] (mk vi vl) post :=
  wr_iconst (n := 0) (v := (0 : Int32)) (by decide +kernel) (by decide) <|
  wr_istore (i := 4) (by decide +kernel) (by decide) <|
  wr_iconst (n := 0) (v := (0 : Int32)) (by decide +kernel) (by decide) <|
  wr_istore (i := 5) (by decide +kernel) (by decide) <|
  k1
theorem b_S_kinds_46 {X : aX} {d : Nat} {post : aO} {vi : Nat → Nat → Int32} {vl : Nat → Nat → Int64} {x1 x2 x3 x4 x5 : Int32} (k1 : (6 : Int32) ≤ x5 → wp X (d + 1) k_S_kinds 0 0 106 [some (.ref 0), some (.int x1), some (.int x2), some (.int x3), some (.int x4), some (.int x5)] [] (mk vi vl) post) (k2 : ¬ (6 : Int32) ≤ x5 → wp X (d + 1) k_S_kinds 0 0 53 [some (.ref 0), some (.int x1), some (.int x2), some (.int x3), some (.int x4), some (.int x5)] [] (mk vi vl) post) : wp X (d + 1) k_S_kinds 0 0 46 [some (.ref 0), some (.int x1), some (.int x2), some (.int x3), some (.int x4), some (.int x5)] [] (mk vi vl) post :=
  wr_iload (i := 5) (by decide +kernel) rfl <|
  wr_bipush (n := 6) (v := (6 : Int32)) (by decide +kernel) (by decide) <|
  wr_icmp_ge (off := 56) (t := 106) (by decide +kernel) (by decide) k1 k2
theorem b_S_kinds_53 {X : aX} {d : Nat} {post : aO} {vi : Nat → Nat → Int32} {vl : Nat → Nat → Int64} {x1 x2 x3 x4 x5 : Int32} (q1 : vp_in x1 8) (k1 : ∀ w, w = up2 vi 17 x1.toNatClampNeg x5 → wp X (d + 1) k_S_kinds 0 0 64 [some (.ref 0), some (.int x1), some (.int x2), some (.int x3), some (.int x4), some (.int x5)] [] (mk w vl) post) : wp X (d + 1) k_S_kinds 0 0 53 [some (.ref 0), some (.int x1), some (.int x2), some (.int x3), some (.int x4), some (.int x5)] [] (mk vi vl) post :=
  wr_aload_n (q := 0) (by decide +kernel) rfl rfl <|
  wr_getR2 (b := 14) (ci := 3) (k0 := 3) (idx := 25) lq_0 sq_0 (by decide) (by decide) lf_S_25 rfl vq_0_3 lq_14 (by decide +kernel) <|
  wr_getR2 (b := 17) (ci := 0) (k0 := 4) (idx := 222) lq_14 sq_14 (by decide) (by decide) lf_S_222 rfl vq_14_4 lq_17 (by decide +kernel) <|
  wr_iload_n (q := 1) (by decide +kernel) rfl rfl <|
  wr_iload (i := 5) (by decide +kernel) rfl <|
  wr_iast lq_17 sq_17 q1 (by decide +kernel) <|
  k1 _ rfl
theorem b_S_kinds_64 {X : aX} {d : Nat} {post : aO} {vi : Nat → Nat → Int32} {vl : Nat → Nat → Int64} {x1 x2 x3 x4 x5 : Int32} (k1 : CallOk X d 0 0 k_C_settleFrom [.ref 14, .int (0 : Int32)] (mk vi vl) (fun r N' => wp X (d + 1) k_S_kinds 0 0 72 [some (.ref 0), some (.int x1), some (.int x2), some (.int x3), some (.int x4), some (.int x5)] (pR r []) N' post)) : wp X (d + 1) k_S_kinds 0 0 64 [some (.ref 0), some (.int x1), some (.int x2), some (.int x3), some (.int x4), some (.int x5)] [] (mk vi vl) post :=
  wr_aload_n (q := 0) (by decide +kernel) rfl rfl <|
  wr_getR2 (b := 14) (ci := 3) (k0 := 3) (idx := 25) lq_0 sq_0 (by decide) (by decide) lf_S_25 rfl vq_0_3 lq_14 (by decide +kernel) <|
  wr_iconst (n := 0) (v := (0 : Int32)) (by decide +kernel) (by decide) <|
  wr_invV (a := 14) (ci := 0) (mid2 := 39) (idx := 112) (b1 := 0) (b2 := 0) (c1 := 0) (c2 := 0) (as := [.int (0 : Int32)]) (st := []) pl_39 rfl (Nat.le_of_ble_eq_true rfl) rfl rfl lq_14 sq_14 (by decide) rfl lm_S_112 im_39 is_39 (by decide +kernel) k1
theorem b_S_kinds_72 {X : aX} {d : Nat} {post : aO} {vi : Nat → Nat → Int32} {vl : Nat → Nat → Int64} {x1 x2 x3 x4 x5 : Int32} (q1 : vp_in x2 6) (k1 : CallOk X d 0 0 k_C_happensAs [.ref 14, .ref ((42 + 2 * x2.toNatClampNeg) + 1)] (mk vi vl) (fun r N' => wp X (d + 1) k_S_kinds 0 0 88 [some (.ref 0), some (.int x1), some (.int x2), some (.int x3), some (.int x4), some (.int x5)] (pR r []) N' post)) : wp X (d + 1) k_S_kinds 0 0 72 [some (.ref 0), some (.int x1), some (.int x2), some (.int x3), some (.int x4), some (.int x5)] [] (mk vi vl) post :=
  wr_aload_n (q := 0) (by decide +kernel) rfl rfl <|
  wr_getR2 (b := 14) (ci := 3) (k0 := 3) (idx := 25) lq_0 sq_0 (by decide) (by decide) lf_S_25 rfl vq_0_3 lq_14 (by decide +kernel) <|
  wr_aload_n (q := 0) (by decide +kernel) rfl rfl <|
  wr_getR2 (b := 1) (ci := 3) (k0 := 0) (idx := 11) lq_0 sq_0 (by decide) (by decide) lf_S_11 rfl vq_0_0 lq_1 (by decide +kernel) <|
  wr_iload_n (q := 2) (by decide +kernel) rfl rfl <|
  wr_aald2 (b := 42 + 2 * x2.toNatClampNeg) lq_1 sq_1 (Or.inl rfl) q1 (rows_v (vin_lt q1)) (rw_lt0 (rows_i (vin_lt q1))) (by decide +kernel) <|
  wr_getR2 (b := (42 + 2 * x2.toNatClampNeg) + 1) (ci := 2) (k0 := 0) (idx := 76) (rw_lt0 (rows_i (vin_lt q1))) (rw_s0 (rows_i (vin_lt q1))) (by decide) (by decide) lf_S_76 rfl (rw_v0 (rows_i (vin_lt q1))) (rw_lt1 (rows_i (vin_lt q1))) (by decide +kernel) <|
  wr_invV (a := 14) (ci := 0) (mid2 := 97) (idx := 218) (b1 := 0) (b2 := 0) (c1 := 0) (c2 := 0) (as := [.ref ((42 + 2 * x2.toNatClampNeg) + 1)]) (st := []) pl_97 rfl (Nat.le_of_ble_eq_true rfl) rfl rfl lq_14 sq_14 (by decide) rfl lm_S_218 im_97 is_97 (by decide +kernel) k1
theorem b_S_kinds_88 {X : aX} {d : Nat} {post : aO} {vi : Nat → Nat → Int32} {vl : Nat → Nat → Int64} {x1 x2 x3 x4 x5 y0 : Int32} (k1 : y0 = 0 → wp X (d + 1) k_S_kinds 0 0 100 [some (.ref 0), some (.int x1), some (.int x2), some (.int x3), some (.int x4), some (.int x5)] [] (mk vi vl) post) (k2 : ¬ y0 = 0 → wp X (d + 1) k_S_kinds 0 0 91 [some (.ref 0), some (.int x1), some (.int x2), some (.int x3), some (.int x4), some (.int x5)] [] (mk vi vl) post) : wp X (d + 1) k_S_kinds 0 0 88 [some (.ref 0), some (.int x1), some (.int x2), some (.int x3), some (.int x4), some (.int x5)] [.int y0] (mk vi vl) post :=
  wr_if_eq (off := 12) (t := 100) (by decide +kernel) (by decide) k1 k2
theorem b_S_kinds_91 {X : aX} {d : Nat} {post : aO} {vi : Nat → Nat → Int32} {vl : Nat → Nat → Int64} {x1 x2 x3 x4 x5 : Int32} (k1 : wp X (d + 1) k_S_kinds 0 0 100 [some (.ref 0), some (.int x1), some (.int x2), some (.int x3), some (.int (x4 ||| ((1 : Int32) <<< (x5 &&& 31)))), some (.int x5)] [] (mk vi vl) post) : wp X (d + 1) k_S_kinds 0 0 91 [some (.ref 0), some (.int x1), some (.int x2), some (.int x3), some (.int x4), some (.int x5)] [] (mk vi vl) post :=
  wr_iload (i := 4) (by decide +kernel) rfl <|
  wr_iconst (n := 1) (v := (1 : Int32)) (by decide +kernel) (by decide) <|
  wr_iload (i := 5) (by decide +kernel) rfl <|
  wr_ishl (by decide +kernel) <|
  wr_ior (by decide +kernel) <|
  wr_istore (i := 4) (by decide +kernel) (by decide) <|
  k1
theorem b_S_kinds_100 {X : aX} {d : Nat} {post : aO} {vi : Nat → Nat → Int32} {vl : Nat → Nat → Int64} {x1 x2 x3 x4 x5 : Int32} (k1 : wp X (d + 1) k_S_kinds 0 0 46 [some (.ref 0), some (.int x1), some (.int x2), some (.int x3), some (.int x4), some (.int (x5 + (1 : Int32)))] [] (mk vi vl) post) : wp X (d + 1) k_S_kinds 0 0 100 [some (.ref 0), some (.int x1), some (.int x2), some (.int x3), some (.int x4), some (.int x5)] [] (mk vi vl) post :=
  wr_iinc (i := 5) (n := 1) (v := (1 : Int32)) (by decide +kernel) rfl (by decide) (by decide) <|
  wr_goto (off := -57) (t := 46) (by decide +kernel) (by decide) k1
theorem b_S_kinds_106 {X : aX} {d : Nat} {post : aO} {vi : Nat → Nat → Int32} {vl : Nat → Nat → Int64} {x1 x2 x3 x4 x5 : Int32} (k1 : post (some (.int x4)) (mk vi vl)) : wp X (d + 1) k_S_kinds 0 0 106 [some (.ref 0), some (.int x1), some (.int x2), some (.int x3), some (.int x4), some (.int x5)] [] (mk vi vl) post :=
  wr_iload (i := 4) (by decide +kernel) rfl <|
  wr_ret (r := some (.int x4)) (Or.inr (Or.inl ⟨_, rfl, (by decide +kernel), (Or.inl rfl)⟩)) k1
theorem b_S_needed_0 {X : aX} {d : Nat} {post : aO} {vi : Nat → Nat → Int32} {vl : Nat → Nat → Int64}  (k1 : CallOk X d 0 0 k_C_take [.ref 14, .ref 3] (mk vi vl) (fun r N' => wp X (d + 1) k_S_needed 0 0 11 [some (.ref 0), none, none] (pR r []) N' post)) : wp X (d + 1) k_S_needed 0 0 0 [some (.ref 0), none, none] [] (mk vi vl) post :=
  wr_aload_n (q := 0) (by decide +kernel) rfl rfl <|
  wr_getR2 (b := 14) (ci := 3) (k0 := 3) (idx := 25) lq_0 sq_0 (by decide) (by decide) lf_S_25 rfl vq_0_3 lq_14 (by decide +kernel) <|
  wr_aload_n (q := 0) (by decide +kernel) rfl rfl <|
  wr_getR2 (b := 3) (ci := 3) (k0 := 2) (idx := 21) lq_0 sq_0 (by decide) (by decide) lf_S_21 rfl vq_0_2 lq_3 (by decide +kernel) <|
  wr_invV (a := 14) (ci := 0) (mid2 := 38) (idx := 108) (b1 := 0) (b2 := 0) (c1 := 0) (c2 := 0) (as := [.ref 3]) (st := []) pl_38 rfl (Nat.le_of_ble_eq_true rfl) rfl rfl lq_14 sq_14 (by decide) rfl lm_S_108 im_38 is_38 (by decide +kernel) k1
theorem b_S_needed_11 {X : aX} {d : Nat} {post : aO} {vi : Nat → Nat → Int32} {vl : Nat → Nat → Int64} {o1 o2 : Option Value} (k1 : wp X (d + 1) k_S_needed 0 0 15 [some (.ref 0), some (.int (0 : Int32)), some (.int (0 : Int32))] [] (mk vi vl) post) : wp X (d + 1) k_S_needed 0 0 11 [some (.ref 0), o1, o2] [] (mk vi vl) post :=
  wr_iconst (n := 0) (v := (0 : Int32)) (by decide +kernel) (by decide) <|
  wr_istore_n (q := 1) (by decide +kernel) rfl (by decide) <|
  wr_iconst (n := 0) (v := (0 : Int32)) (by decide +kernel) (by decide) <|
  wr_istore_n (q := 2) (by decide +kernel) rfl (by decide) <|
  k1
theorem b_S_needed_15 {X : aX} {d : Nat} {post : aO} {vi : Nat → Nat → Int32} {vl : Nat → Nat → Int64} {x1 x2 : Int32} (k1 : (vi 3 3) ≤ x2 → wp X (d + 1) k_S_needed 0 0 91 [some (.ref 0), some (.int x1), some (.int x2)] [] (mk vi vl) post) (k2 : ¬ (vi 3 3) ≤ x2 → wp X (d + 1) k_S_needed 0 0 26 [some (.ref 0), some (.int x1), some (.int x2)] [] (mk vi vl) post) : wp X (d + 1) k_S_needed 0 0 15 [some (.ref 0), some (.int x1), some (.int x2)] [] (mk vi vl) post :=
  wr_iload_n (q := 2) (by decide +kernel) rfl rfl <|
  wr_aload_n (q := 0) (by decide +kernel) rfl rfl <|
  wr_getR2 (b := 3) (ci := 3) (k0 := 2) (idx := 21) lq_0 sq_0 (by decide) (by decide) lf_S_21 rfl vq_0_2 lq_3 (by decide +kernel) <|
  wr_getI (ci := 0) (k0 := 3) (idx := 225) lq_3 sq_3 (by decide) (by decide) lf_S_225 (Or.inl rfl) (by decide +kernel) <|
  wr_icmp_ge (off := 68) (t := 91) (by decide +kernel) (by decide) k1 k2
theorem b_S_needed_26 {X : aX} {d : Nat} {post : aO} {vi : Nat → Nat → Int32} {vl : Nat → Nat → Int64} {x1 x2 : Int32} (q1 : vp_in x2 8) (k1 : ∀ w, w = up2 vi 17 x2.toNatClampNeg (1 : Int32) → wp X (d + 1) k_S_needed 0 0 36 [some (.ref 0), some (.int x1), some (.int x2)] [] (mk w vl) post) : wp X (d + 1) k_S_needed 0 0 26 [some (.ref 0), some (.int x1), some (.int x2)] [] (mk vi vl) post :=
  wr_aload_n (q := 0) (by decide +kernel) rfl rfl <|
  wr_getR2 (b := 14) (ci := 3) (k0 := 3) (idx := 25) lq_0 sq_0 (by decide) (by decide) lf_S_25 rfl vq_0_3 lq_14 (by decide +kernel) <|
  wr_getR2 (b := 17) (ci := 0) (k0 := 4) (idx := 222) lq_14 sq_14 (by decide) (by decide) lf_S_222 rfl vq_14_4 lq_17 (by decide +kernel) <|
  wr_iload_n (q := 2) (by decide +kernel) rfl rfl <|
  wr_iconst (n := 1) (v := (1 : Int32)) (by decide +kernel) (by decide) <|
  wr_iast lq_17 sq_17 q1 (by decide +kernel) <|
  k1 _ rfl
theorem b_S_needed_36 {X : aX} {d : Nat} {post : aO} {vi : Nat → Nat → Int32} {vl : Nat → Nat → Int64} {x1 x2 : Int32} (k1 : CallOk X d 0 0 k_C_settleFrom [.ref 14, .int (0 : Int32)] (mk vi vl) (fun r N' => wp X (d + 1) k_S_needed 0 0 44 [some (.ref 0), some (.int x1), some (.int x2)] (pR r []) N' post)) : wp X (d + 1) k_S_needed 0 0 36 [some (.ref 0), some (.int x1), some (.int x2)] [] (mk vi vl) post :=
  wr_aload_n (q := 0) (by decide +kernel) rfl rfl <|
  wr_getR2 (b := 14) (ci := 3) (k0 := 3) (idx := 25) lq_0 sq_0 (by decide) (by decide) lf_S_25 rfl vq_0_3 lq_14 (by decide +kernel) <|
  wr_iconst (n := 0) (v := (0 : Int32)) (by decide +kernel) (by decide) <|
  wr_invV (a := 14) (ci := 0) (mid2 := 39) (idx := 112) (b1 := 0) (b2 := 0) (c1 := 0) (c2 := 0) (as := [.int (0 : Int32)]) (st := []) pl_39 rfl (Nat.le_of_ble_eq_true rfl) rfl rfl lq_14 sq_14 (by decide) rfl lm_S_112 im_39 is_39 (by decide +kernel) k1
theorem b_S_needed_44 {X : aX} {d : Nat} {post : aO} {vi : Nat → Nat → Int32} {vl : Nat → Nat → Int64} {x1 x2 : Int32} (k1 : CallOk X d 0 0 k_C_happensAs [.ref 14, .ref 12] (mk vi vl) (fun r N' => wp X (d + 1) k_S_needed 0 0 58 [some (.ref 0), some (.int x1), some (.int x2)] (pR r []) N' post)) : wp X (d + 1) k_S_needed 0 0 44 [some (.ref 0), some (.int x1), some (.int x2)] [] (mk vi vl) post :=
  wr_aload_n (q := 0) (by decide +kernel) rfl rfl <|
  wr_getR2 (b := 14) (ci := 3) (k0 := 3) (idx := 25) lq_0 sq_0 (by decide) (by decide) lf_S_25 rfl vq_0_3 lq_14 (by decide +kernel) <|
  wr_aload_n (q := 0) (by decide +kernel) rfl rfl <|
  wr_getR2 (b := 3) (ci := 3) (k0 := 2) (idx := 21) lq_0 sq_0 (by decide) (by decide) lf_S_21 rfl vq_0_2 lq_3 (by decide +kernel) <|
  wr_getR2 (b := 12) (ci := 0) (k0 := 11) (idx := 228) lq_3 sq_3 (by decide) (by decide) lf_S_228 rfl vq_3_11 lq_12 (by decide +kernel) <|
  wr_invV (a := 14) (ci := 0) (mid2 := 97) (idx := 218) (b1 := 0) (b2 := 0) (c1 := 0) (c2 := 0) (as := [.ref 12]) (st := []) pl_97 rfl (Nat.le_of_ble_eq_true rfl) rfl rfl lq_14 sq_14 (by decide) rfl lm_S_218 im_97 is_97 (by decide +kernel) k1
theorem b_S_needed_58 {X : aX} {d : Nat} {post : aO} {vi : Nat → Nat → Int32} {vl : Nat → Nat → Int64} {x1 x2 y0 : Int32} (k1 : ¬ y0 = 0 → wp X (d + 1) k_S_needed 0 0 67 [some (.ref 0), some (.int x1), some (.int x2)] [] (mk vi vl) post) (k2 : y0 = 0 → wp X (d + 1) k_S_needed 0 0 61 [some (.ref 0), some (.int x1), some (.int x2)] [] (mk vi vl) post) : wp X (d + 1) k_S_needed 0 0 58 [some (.ref 0), some (.int x1), some (.int x2)] [.int y0] (mk vi vl) post :=
  wr_if_ne (off := 9) (t := 67) (by decide +kernel) (by decide) k1 k2
theorem b_S_needed_61 {X : aX} {d : Nat} {post : aO} {vi : Nat → Nat → Int32} {vl : Nat → Nat → Int64} {x1 x2 : Int32} (k1 : wp X (d + 1) k_S_needed 0 0 67 [some (.ref 0), some (.int (x1 ||| ((1 : Int32) <<< (x2 &&& 31)))), some (.int x2)] [] (mk vi vl) post) : wp X (d + 1) k_S_needed 0 0 61 [some (.ref 0), some (.int x1), some (.int x2)] [] (mk vi vl) post :=
  wr_iload_n (q := 1) (by decide +kernel) rfl rfl <|
  wr_iconst (n := 1) (v := (1 : Int32)) (by decide +kernel) (by decide) <|
  wr_iload_n (q := 2) (by decide +kernel) rfl rfl <|
  wr_ishl (by decide +kernel) <|
  wr_ior (by decide +kernel) <|
  wr_istore_n (q := 1) (by decide +kernel) rfl (by decide) <|
  k1
theorem b_S_needed_67 {X : aX} {d : Nat} {post : aO} {vi : Nat → Nat → Int32} {vl : Nat → Nat → Int64} {x1 x2 : Int32} (q1 : vp_in x2 8) (q2 : vp_in x2 8) (k1 : ∀ w, w = up2 vi 17 x2.toNatClampNeg (vi 6 x2.toNatClampNeg) → wp X (d + 1) k_S_needed 0 0 85 [some (.ref 0), some (.int x1), some (.int x2)] [] (mk w vl) post) : wp X (d + 1) k_S_needed 0 0 67 [some (.ref 0), some (.int x1), some (.int x2)] [] (mk vi vl) post :=
  wr_aload_n (q := 0) (by decide +kernel) rfl rfl <|
  wr_getR2 (b := 14) (ci := 3) (k0 := 3) (idx := 25) lq_0 sq_0 (by decide) (by decide) lf_S_25 rfl vq_0_3 lq_14 (by decide +kernel) <|
  wr_getR2 (b := 17) (ci := 0) (k0 := 4) (idx := 222) lq_14 sq_14 (by decide) (by decide) lf_S_222 rfl vq_14_4 lq_17 (by decide +kernel) <|
  wr_iload_n (q := 2) (by decide +kernel) rfl rfl <|
  wr_aload_n (q := 0) (by decide +kernel) rfl rfl <|
  wr_getR2 (b := 3) (ci := 3) (k0 := 2) (idx := 21) lq_0 sq_0 (by decide) (by decide) lf_S_21 rfl vq_0_2 lq_3 (by decide +kernel) <|
  wr_getR2 (b := 6) (ci := 0) (k0 := 4) (idx := 222) lq_3 sq_3 (by decide) (by decide) lf_S_222 rfl vq_3_4 lq_6 (by decide +kernel) <|
  wr_iload_n (q := 2) (by decide +kernel) rfl rfl <|
  wr_iald lq_6 sq_6 q1 (by decide +kernel) <|
  wr_iast lq_17 sq_17 q2 (by decide +kernel) <|
  k1 _ rfl
theorem b_S_needed_85 {X : aX} {d : Nat} {post : aO} {vi : Nat → Nat → Int32} {vl : Nat → Nat → Int64} {x1 x2 : Int32} (k1 : wp X (d + 1) k_S_needed 0 0 15 [some (.ref 0), some (.int x1), some (.int (x2 + (1 : Int32)))] [] (mk vi vl) post) : wp X (d + 1) k_S_needed 0 0 85 [some (.ref 0), some (.int x1), some (.int x2)] [] (mk vi vl) post :=
  wr_iinc (i := 2) (n := 1) (v := (1 : Int32)) (by decide +kernel) rfl (by decide) (by decide) <|
  wr_goto (off := -73) (t := 15) (by decide +kernel) (by decide) k1
theorem b_S_needed_91 {X : aX} {d : Nat} {post : aO} {vi : Nat → Nat → Int32} {vl : Nat → Nat → Int64} {x1 x2 : Int32} (k1 : post (some (.int x1)) (mk vi vl)) : wp X (d + 1) k_S_needed 0 0 91 [some (.ref 0), some (.int x1), some (.int x2)] [] (mk vi vl) post :=
  wr_iload_n (q := 1) (by decide +kernel) rfl rfl <|
  wr_ret (r := some (.int x1)) (Or.inr (Or.inl ⟨_, rfl, (by decide +kernel), (Or.inl rfl)⟩)) k1
theorem b_S_forged_0 {X : aX} {d : Nat} {post : aO} {vi : Nat → Nat → Int32} {vl : Nat → Nat → Int64} {x1 : Int32} (k1 : CallOk X d 0 0 k_S_isRow [.int x1] (mk vi vl) (fun r N' => wp X (d + 1) k_S_forged 0 0 4 [some (.ref 0), some (.int x1), none, none] (pR r []) N' post)) : wp X (d + 1) k_S_forged 0 0 0 [some (.ref 0), some (.int x1), none, none] [] (mk vi vl) post :=
  wr_iload_n (q := 1) (by decide +kernel) rfl rfl <|
  wr_invS (mid2 := 7) (idx := 60) (b1 := 0) (b2 := 0) (c1 := 0) (c2 := 0) (as := [.int x1]) (st := []) pl_7 rfl (Nat.le_of_ble_eq_true rfl) rfl rfl lm_S_60 it_7 (by decide +kernel) k1
theorem b_S_forged_4 {X : aX} {d : Nat} {post : aO} {vi : Nat → Nat → Int32} {vl : Nat → Nat → Int64} {x1 y0 : Int32} {o2 o3 : Option Value} (k1 : ¬ y0 = 0 → wp X (d + 1) k_S_forged 0 0 9 [some (.ref 0), some (.int x1), o2, o3] [] (mk vi vl) post) (k2 : y0 = 0 → wp X (d + 1) k_S_forged 0 0 7 [some (.ref 0), some (.int x1), o2, o3] [] (mk vi vl) post) : wp X (d + 1) k_S_forged 0 0 4 [some (.ref 0), some (.int x1), o2, o3] [.int y0] (mk vi vl) post :=
  wr_if_ne (off := 5) (t := 9) (by decide +kernel) (by decide) k1 k2
theorem b_S_forged_7 {X : aX} {d : Nat} {post : aO} {vi : Nat → Nat → Int32} {vl : Nat → Nat → Int64} {x1 : Int32} {o2 o3 : Option Value} (k1 : post (some (.int (-1 : Int32))) (mk vi vl)) : wp X (d + 1) k_S_forged 0 0 7 [some (.ref 0), some (.int x1), o2, o3] [] (mk vi vl) post :=
  wr_iconst (n := -1) (v := (-1 : Int32)) (by decide +kernel) (by decide) <|
  wr_ret (r := some (.int (-1 : Int32))) (Or.inr (Or.inl ⟨_, rfl, (by decide +kernel), (Or.inl rfl)⟩)) k1
theorem b_S_forged_9 {X : aX} {d : Nat} {post : aO} {vi : Nat → Nat → Int32} {vl : Nat → Nat → Int64} {x1 : Int32} {o2 o3 : Option Value} (k1 : ¬ (vi 3 0) = 0 → wp X (d + 1) k_S_forged 0 0 22 [some (.ref 0), some (.int x1), o2, o3] [] (mk vi vl) post) (k2 : (vi 3 0) = 0 → wp X (d + 1) k_S_forged 0 0 19 [some (.ref 0), some (.int x1), o2, o3] [] (mk vi vl) post) : wp X (d + 1) k_S_forged 0 0 9 [some (.ref 0), some (.int x1), o2, o3] [] (mk vi vl) post :=
  wr_aload_n (q := 0) (by decide +kernel) rfl rfl <|
  wr_getR2 (b := 3) (ci := 3) (k0 := 2) (idx := 21) lq_0 sq_0 (by decide) (by decide) lf_S_21 rfl vq_0_2 lq_3 (by decide +kernel) <|
  wr_getI (ci := 0) (k0 := 0) (idx := 118) lq_3 sq_3 (by decide) (by decide) lf_S_118 (Or.inl rfl) (by decide +kernel) <|
  wr_if_ne (off := 6) (t := 22) (by decide +kernel) (by decide) k1 k2
theorem b_S_forged_19 {X : aX} {d : Nat} {post : aO} {vi : Nat → Nat → Int32} {vl : Nat → Nat → Int64} {x1 : Int32} {o2 o3 : Option Value} (k1 : post (some (.int (-4 : Int32))) (mk vi vl)) : wp X (d + 1) k_S_forged 0 0 19 [some (.ref 0), some (.int x1), o2, o3] [] (mk vi vl) post :=
  wr_bipush (n := -4) (v := (-4 : Int32)) (by decide +kernel) (by decide) <|
  wr_ret (r := some (.int (-4 : Int32))) (Or.inr (Or.inl ⟨_, rfl, (by decide +kernel), (Or.inl rfl)⟩)) k1
theorem b_S_forged_22 {X : aX} {d : Nat} {post : aO} {vi : Nat → Nat → Int32} {vl : Nat → Nat → Int64} {x1 : Int32} {o2 o3 : Option Value} (k1 : CallOk X d 0 0 k_S_refuseHistory [.ref 0, .int x1] (mk vi vl) (fun r N' => wp X (d + 1) k_S_forged 0 0 27 [some (.ref 0), some (.int x1), o2, o3] (pR r []) N' post)) : wp X (d + 1) k_S_forged 0 0 22 [some (.ref 0), some (.int x1), o2, o3] [] (mk vi vl) post :=
  wr_aload_n (q := 0) (by decide +kernel) rfl rfl <|
  wr_iload_n (q := 1) (by decide +kernel) rfl rfl <|
  wr_invV (a := 0) (ci := 3) (mid2 := 96) (idx := 215) (b1 := 0) (b2 := 0) (c1 := 0) (c2 := 0) (as := [.int x1]) (st := []) pl_96 rfl (Nat.le_of_ble_eq_true rfl) rfl rfl lq_0 sq_0 (by decide) rfl lm_S_215 im_96 is_96 (by decide +kernel) k1
theorem b_S_forged_27 {X : aX} {d : Nat} {post : aO} {vi : Nat → Nat → Int32} {vl : Nat → Nat → Int64} {x1 y0 : Int32} {o2 o3 : Option Value} (k1 : y0 = 0 → wp X (d + 1) k_S_forged 0 0 34 [some (.ref 0), some (.int x1), some (.int y0), o3] [] (mk vi vl) post) (k2 : ¬ y0 = 0 → wp X (d + 1) k_S_forged 0 0 32 [some (.ref 0), some (.int x1), some (.int y0), o3] [] (mk vi vl) post) : wp X (d + 1) k_S_forged 0 0 27 [some (.ref 0), some (.int x1), o2, o3] [.int y0] (mk vi vl) post :=
  wr_istore_n (q := 2) (by decide +kernel) rfl (by decide) <|
  wr_iload_n (q := 2) (by decide +kernel) rfl rfl <|
  wr_if_eq (off := 5) (t := 34) (by decide +kernel) (by decide) k1 k2
theorem b_S_forged_32 {X : aX} {d : Nat} {post : aO} {vi : Nat → Nat → Int32} {vl : Nat → Nat → Int64} {x1 x2 : Int32} {o3 : Option Value} (k1 : post (some (.int x2)) (mk vi vl)) : wp X (d + 1) k_S_forged 0 0 32 [some (.ref 0), some (.int x1), some (.int x2), o3] [] (mk vi vl) post :=
  wr_iload_n (q := 2) (by decide +kernel) rfl rfl <|
  wr_ret (r := some (.int x2)) (Or.inr (Or.inl ⟨_, rfl, (by decide +kernel), (Or.inl rfl)⟩)) k1
theorem b_S_forged_34 {X : aX} {d : Nat} {post : aO} {vi : Nat → Nat → Int32} {vl : Nat → Nat → Int64} {x1 x2 : Int32} {o3 : Option Value} (k1 : CallOk X d 0 0 k_P_begin [.ref 26, .int (0 : Int32), .int (0 : Int32)] (mk vi vl) (fun r N' => wp X (d + 1) k_S_forged 0 0 43 [some (.ref 0), some (.int x1), some (.int x2), o3] (pR r []) N' post)) : wp X (d + 1) k_S_forged 0 0 34 [some (.ref 0), some (.int x1), some (.int x2), o3] [] (mk vi vl) post :=
  wr_aload_n (q := 0) (by decide +kernel) rfl rfl <|
  wr_getR2 (b := 26) (ci := 3) (k0 := 5) (idx := 35) lq_0 sq_0 (by decide) (by decide) lf_S_35 rfl vq_0_5 lq_26 (by decide +kernel) <|
  wr_iconst (n := 0) (v := (0 : Int32)) (by decide +kernel) (by decide) <|
  wr_iconst (n := 0) (v := (0 : Int32)) (by decide +kernel) (by decide) <|
  wr_invV (a := 26) (ci := 1) (mid2 := 79) (idx := 189) (b1 := 0) (b2 := 0) (c1 := 0) (c2 := 0) (as := [.int (0 : Int32), .int (0 : Int32)]) (st := []) pl_79 rfl (Nat.le_of_ble_eq_true rfl) rfl rfl lq_26 sq_26 (by decide) rfl lm_S_189 im_79 is_79 (by decide +kernel) k1
theorem b_S_forged_43 {X : aX} {d : Nat} {post : aO} {vi : Nat → Nat → Int32} {vl : Nat → Nat → Int64} {x1 x2 : Int32} {o3 : Option Value} (k1 : wp X (d + 1) k_S_forged 0 0 45 [some (.ref 0), some (.int x1), some (.int x2), some (.int (0 : Int32))] [] (mk vi vl) post) : wp X (d + 1) k_S_forged 0 0 43 [some (.ref 0), some (.int x1), some (.int x2), o3] [] (mk vi vl) post :=
  wr_iconst (n := 0) (v := (0 : Int32)) (by decide +kernel) (by decide) <|
  wr_istore_n (q := 3) (by decide +kernel) rfl (by decide) <|
  k1
theorem b_S_forged_45 {X : aX} {d : Nat} {post : aO} {vi : Nat → Nat → Int32} {vl : Nat → Nat → Int64} {x1 x2 x3 : Int32} (k1 : (vi 3 0) ≤ x3 → wp X (d + 1) k_S_forged 0 0 84 [some (.ref 0), some (.int x1), some (.int x2), some (.int x3)] [] (mk vi vl) post) (k2 : ¬ (vi 3 0) ≤ x3 → wp X (d + 1) k_S_forged 0 0 56 [some (.ref 0), some (.int x1), some (.int x2), some (.int x3)] [] (mk vi vl) post) : wp X (d + 1) k_S_forged 0 0 45 [some (.ref 0), some (.int x1), some (.int x2), some (.int x3)] [] (mk vi vl) post :=
  wr_iload_n (q := 3) (by decide +kernel) rfl rfl <|
  wr_aload_n (q := 0) (by decide +kernel) rfl rfl <|
  wr_getR2 (b := 3) (ci := 3) (k0 := 2) (idx := 21) lq_0 sq_0 (by decide) (by decide) lf_S_21 rfl vq_0_2 lq_3 (by decide +kernel) <|
  wr_getI (ci := 0) (k0 := 0) (idx := 118) lq_3 sq_3 (by decide) (by decide) lf_S_118 (Or.inl rfl) (by decide +kernel) <|
  wr_icmp_ge (off := 31) (t := 84) (by decide +kernel) (by decide) k1 k2
theorem b_S_forged_56 {X : aX} {d : Nat} {post : aO} {vi : Nat → Nat → Int32} {vl : Nat → Nat → Int64} {x1 x2 x3 : Int32} (q1 : vp_in x1 6) (q2 : vp_in x3 (rl (42 + 2 * x1.toNatClampNeg))) (k1 : CallOk X d 0 0 k_S_happeningBit [.int (vi ((42 + 2 * x1.toNatClampNeg) + 1) x3.toNatClampNeg)] (mk vi vl) (fun r N' => wp X (d + 1) k_S_forged 0 0 75 [some (.ref 0), some (.int x1), some (.int x2), some (.int x3)] (pR r [.int x3, .ref 26]) N' post)) : wp X (d + 1) k_S_forged 0 0 56 [some (.ref 0), some (.int x1), some (.int x2), some (.int x3)] [] (mk vi vl) post :=
  wr_aload_n (q := 0) (by decide +kernel) rfl rfl <|
  wr_getR2 (b := 26) (ci := 3) (k0 := 5) (idx := 35) lq_0 sq_0 (by decide) (by decide) lf_S_35 rfl vq_0_5 lq_26 (by decide +kernel) <|
  wr_iload_n (q := 3) (by decide +kernel) rfl rfl <|
  wr_aload_n (q := 0) (by decide +kernel) rfl rfl <|
  wr_getR2 (b := 1) (ci := 3) (k0 := 0) (idx := 11) lq_0 sq_0 (by decide) (by decide) lf_S_11 rfl vq_0_0 lq_1 (by decide +kernel) <|
  wr_iload_n (q := 1) (by decide +kernel) rfl rfl <|
  wr_aald2 (b := 42 + 2 * x1.toNatClampNeg) lq_1 sq_1 (Or.inl rfl) q1 (rows_v (vin_lt q1)) (rw_lt0 (rows_i (vin_lt q1))) (by decide +kernel) <|
  wr_getR2 (b := (42 + 2 * x1.toNatClampNeg) + 1) (ci := 2) (k0 := 0) (idx := 76) (rw_lt0 (rows_i (vin_lt q1))) (rw_s0 (rows_i (vin_lt q1))) (by decide) (by decide) lf_S_76 rfl (rw_v0 (rows_i (vin_lt q1))) (rw_lt1 (rows_i (vin_lt q1))) (by decide +kernel) <|
  wr_iload_n (q := 3) (by decide +kernel) rfl rfl <|
  wr_iald (rw_lt1 (rows_i (vin_lt q1))) (rw_s1 (rows_i (vin_lt q1))) q2 (by decide +kernel) <|
  wr_invS (mid2 := 87) (idx := 231) (b1 := 0) (b2 := 0) (c1 := 0) (c2 := 0) (as := [.int (vi ((42 + 2 * x1.toNatClampNeg) + 1) x3.toNatClampNeg)]) (st := [.int x3, .ref 26]) pl_87 rfl (Nat.le_of_ble_eq_true rfl) rfl rfl lm_S_231 it_87 (by decide +kernel) k1
theorem b_S_forged_75 {X : aX} {d : Nat} {post : aO} {vi : Nat → Nat → Int32} {vl : Nat → Nat → Int64} {x1 x2 x3 y1 y2 : Int32} (k1 : CallOk X d 0 0 k_P_want [.ref 26, .int y1, .int y2] (mk vi vl) (fun r N' => wp X (d + 1) k_S_forged 0 0 78 [some (.ref 0), some (.int x1), some (.int x2), some (.int x3)] (pR r []) N' post)) : wp X (d + 1) k_S_forged 0 0 75 [some (.ref 0), some (.int x1), some (.int x2), some (.int x3)] [.int y2, .int y1, .ref 26] (mk vi vl) post :=
  wr_invV (a := 26) (ci := 1) (mid2 := 80) (idx := 192) (b1 := 0) (b2 := 0) (c1 := 0) (c2 := 0) (as := [.int y1, .int y2]) (st := []) pl_80 rfl (Nat.le_of_ble_eq_true rfl) rfl rfl lq_26 sq_26 (by decide) rfl lm_S_192 im_80 is_80 (by decide +kernel) k1
theorem b_S_forged_78 {X : aX} {d : Nat} {post : aO} {vi : Nat → Nat → Int32} {vl : Nat → Nat → Int64} {x1 x2 x3 : Int32} (k1 : wp X (d + 1) k_S_forged 0 0 45 [some (.ref 0), some (.int x1), some (.int x2), some (.int (x3 + (1 : Int32)))] [] (mk vi vl) post) : wp X (d + 1) k_S_forged 0 0 78 [some (.ref 0), some (.int x1), some (.int x2), some (.int x3)] [] (mk vi vl) post :=
  wr_iinc (i := 3) (n := 1) (v := (1 : Int32)) (by decide +kernel) rfl (by decide) (by decide) <|
  wr_goto (off := -36) (t := 45) (by decide +kernel) (by decide) k1
theorem b_S_forged_84 {X : aX} {d : Nat} {post : aO} {vi : Nat → Nat → Int32} {vl : Nat → Nat → Int64} {x1 x2 x3 : Int32} (k1 : CallOk X d 0 0 k_P_seek [.ref 26, .ref 3, .int (1 : Int32)] (mk vi vl) (fun r N' => wp X (d + 1) k_S_forged 0 0 96 [some (.ref 0), some (.int x1), some (.int x2), some (.int x3)] (pR r []) N' post)) : wp X (d + 1) k_S_forged 0 0 84 [some (.ref 0), some (.int x1), some (.int x2), some (.int x3)] [] (mk vi vl) post :=
  wr_aload_n (q := 0) (by decide +kernel) rfl rfl <|
  wr_getR2 (b := 26) (ci := 3) (k0 := 5) (idx := 35) lq_0 sq_0 (by decide) (by decide) lf_S_35 rfl vq_0_5 lq_26 (by decide +kernel) <|
  wr_aload_n (q := 0) (by decide +kernel) rfl rfl <|
  wr_getR2 (b := 3) (ci := 3) (k0 := 2) (idx := 21) lq_0 sq_0 (by decide) (by decide) lf_S_21 rfl vq_0_2 lq_3 (by decide +kernel) <|
  wr_iconst (n := 1) (v := (1 : Int32)) (by decide +kernel) (by decide) <|
  wr_invV (a := 26) (ci := 1) (mid2 := 82) (idx := 198) (b1 := 0) (b2 := 0) (c1 := 0) (c2 := 0) (as := [.ref 3, .int (1 : Int32)]) (st := []) pl_82 rfl (Nat.le_of_ble_eq_true rfl) rfl rfl lq_26 sq_26 (by decide) rfl lm_S_198 im_82 is_82 (by decide +kernel) k1
theorem b_S_forged_96 {X : aX} {d : Nat} {post : aO} {vi : Nat → Nat → Int32} {vl : Nat → Nat → Int64} {x1 x2 x3 y0 : Int32} (k1 : ¬ y0 = 0 → wp X (d + 1) k_S_forged 0 0 107 [some (.ref 0), some (.int x1), some (.int x2), some (.int y0)] [.ref 0] (mk vi vl) post) (k2 : y0 = 0 → wp X (d + 1) k_S_forged 0 0 102 [some (.ref 0), some (.int x1), some (.int x2), some (.int y0)] [.ref 0] (mk vi vl) post) : wp X (d + 1) k_S_forged 0 0 96 [some (.ref 0), some (.int x1), some (.int x2), some (.int x3)] [.int y0] (mk vi vl) post :=
  wr_istore_n (q := 3) (by decide +kernel) rfl (by decide) <|
  wr_aload_n (q := 0) (by decide +kernel) rfl rfl <|
  wr_iload_n (q := 3) (by decide +kernel) rfl rfl <|
  wr_if_ne (off := 8) (t := 107) (by decide +kernel) (by decide) k1 k2
theorem b_S_forged_102 {X : aX} {d : Nat} {post : aO} {vi : Nat → Nat → Int32} {vl : Nat → Nat → Int64} {x1 x2 x3 : Int32} (k1 : wp X (d + 1) k_S_forged 0 0 118 [some (.ref 0), some (.int x1), some (.int x2), some (.int x3)] [.int (-9 : Int32), .ref 0] (mk vi vl) post) : wp X (d + 1) k_S_forged 0 0 102 [some (.ref 0), some (.int x1), some (.int x2), some (.int x3)] [.ref 0] (mk vi vl) post :=
  wr_bipush (n := -9) (v := (-9 : Int32)) (by decide +kernel) (by decide) <|
  wr_goto (off := 14) (t := 118) (by decide +kernel) (by decide) k1
theorem b_S_forged_107 {X : aX} {d : Nat} {post : aO} {vi : Nat → Nat → Int32} {vl : Nat → Nat → Int64} {x1 x2 x3 : Int32} (k1 : CallOk X d 0 0 k_S_firstChanged [.ref 0, .ref 40] (mk vi vl) (fun r N' => wp X (d + 1) k_S_forged 0 0 118 [some (.ref 0), some (.int x1), some (.int x2), some (.int x3)] (pR r [.ref 0]) N' post)) : wp X (d + 1) k_S_forged 0 0 107 [some (.ref 0), some (.int x1), some (.int x2), some (.int x3)] [.ref 0] (mk vi vl) post :=
  wr_aload_n (q := 0) (by decide +kernel) rfl rfl <|
  wr_aload_n (q := 0) (by decide +kernel) rfl rfl <|
  wr_getR2 (b := 26) (ci := 3) (k0 := 5) (idx := 35) lq_0 sq_0 (by decide) (by decide) lf_S_35 rfl vq_0_5 lq_26 (by decide +kernel) <|
  wr_getR2 (b := 40) (ci := 1) (k0 := 7) (idx := 234) lq_26 sq_26 (by decide) (by decide) lf_S_234 rfl vq_26_7 lq_40 (by decide +kernel) <|
  wr_invV (a := 0) (ci := 3) (mid2 := 101) (idx := 237) (b1 := 0) (b2 := 0) (c1 := 0) (c2 := 0) (as := [.ref 40]) (st := [.ref 0]) pl_101 rfl (Nat.le_of_ble_eq_true rfl) rfl rfl lq_0 sq_0 (by decide) rfl lm_S_237 im_101 is_101 (by decide +kernel) k1
theorem b_S_forged_118 {X : aX} {d : Nat} {post : aO} {vi : Nat → Nat → Int32} {vl : Nat → Nat → Int64} {x1 x2 x3 y1 : Int32} (k1 : ∀ w, w = up2 vi 0 8 y1 → wp X (d + 1) k_S_forged 0 0 121 [some (.ref 0), some (.int x1), some (.int x2), some (.int x3)] [] (mk w vl) post) : wp X (d + 1) k_S_forged 0 0 118 [some (.ref 0), some (.int x1), some (.int x2), some (.int x3)] [.int y1, .ref 0] (mk vi vl) post :=
  wr_putI (ci := 3) (k0 := 8) (idx := 47) lq_0 sq_0 (by decide) (by decide) lf_S_47 rfl (by decide +kernel) <|
  k1 _ rfl
theorem b_S_forged_121 {X : aX} {d : Nat} {post : aO} {vi : Nat → Nat → Int32} {vl : Nat → Nat → Int64} {x1 x2 x3 : Int32} (k1 : post (some (.int x3)) (mk vi vl)) : wp X (d + 1) k_S_forged 0 0 121 [some (.ref 0), some (.int x1), some (.int x2), some (.int x3)] [] (mk vi vl) post :=
  wr_iload_n (q := 3) (by decide +kernel) rfl rfl <|
  wr_ret (r := some (.int x3)) (Or.inr (Or.inl ⟨_, rfl, (by decide +kernel), (Or.inl rfl)⟩)) k1
theorem b_S_firstChanged_0 {X : aX} {d : Nat} {post : aO} {vi : Nat → Nat → Int32} {vl : Nat → Nat → Int64} {v1 : Nat} (k1 : wp X (d + 1) k_S_firstChanged 0 0 2 [some (.ref 0), some (.ref v1), some (.int (0 : Int32))] [] (mk vi vl) post) : wp X (d + 1) k_S_firstChanged 0 0 0 [some (.ref 0), some (.ref v1), none] [] (mk vi vl) post :=
  wr_iconst (n := 0) (v := (0 : Int32)) (by decide +kernel) (by decide) <|
  wr_istore_n (q := 2) (by decide +kernel) rfl (by decide) <|
  k1
theorem b_S_firstChanged_2 {X : aX} {d : Nat} {post : aO} {vi : Nat → Nat → Int32} {vl : Nat → Nat → Int64} {v1 : Nat} {x2 : Int32} (k1 : (vi 3 0) ≤ x2 → wp X (d + 1) k_S_firstChanged 0 0 29 [some (.ref 0), some (.ref v1), some (.int x2)] [] (mk vi vl) post) (k2 : ¬ (vi 3 0) ≤ x2 → wp X (d + 1) k_S_firstChanged 0 0 13 [some (.ref 0), some (.ref v1), some (.int x2)] [] (mk vi vl) post) : wp X (d + 1) k_S_firstChanged 0 0 2 [some (.ref 0), some (.ref v1), some (.int x2)] [] (mk vi vl) post :=
  wr_iload_n (q := 2) (by decide +kernel) rfl rfl <|
  wr_aload_n (q := 0) (by decide +kernel) rfl rfl <|
  wr_getR2 (b := 3) (ci := 3) (k0 := 2) (idx := 21) lq_0 sq_0 (by decide) (by decide) lf_S_21 rfl vq_0_2 lq_3 (by decide +kernel) <|
  wr_getI (ci := 0) (k0 := 0) (idx := 118) lq_3 sq_3 (by decide) (by decide) lf_S_118 (Or.inl rfl) (by decide +kernel) <|
  wr_icmp_ge (off := 19) (t := 29) (by decide +kernel) (by decide) k1 k2
theorem b_S_firstChanged_13 {X : aX} {d : Nat} {post : aO} {vi : Nat → Nat → Int32} {vl : Nat → Nat → Int64} {v1 v1n : Nat} {x2 : Int32} (hav1 : v1 < 107) (hsv1 : sh0 v1 = (0, v1n)) (q1 : vp_in x2 v1n) (k1 : (vi v1 x2.toNatClampNeg) = (6 : Int32) → wp X (d + 1) k_S_firstChanged 0 0 23 [some (.ref 0), some (.ref v1), some (.int x2)] [] (mk vi vl) post) (k2 : ¬ (vi v1 x2.toNatClampNeg) = (6 : Int32) → wp X (d + 1) k_S_firstChanged 0 0 21 [some (.ref 0), some (.ref v1), some (.int x2)] [] (mk vi vl) post) : wp X (d + 1) k_S_firstChanged 0 0 13 [some (.ref 0), some (.ref v1), some (.int x2)] [] (mk vi vl) post :=
  wr_aload_n (q := 1) (by decide +kernel) rfl rfl <|
  wr_iload_n (q := 2) (by decide +kernel) rfl rfl <|
  wr_iald hav1 hsv1 q1 (by decide +kernel) <|
  wr_bipush (n := 6) (v := (6 : Int32)) (by decide +kernel) (by decide) <|
  wr_icmp_eq (off := 5) (t := 23) (by decide +kernel) (by decide) k1 k2
theorem b_S_firstChanged_21 {X : aX} {d : Nat} {post : aO} {vi : Nat → Nat → Int32} {vl : Nat → Nat → Int64} {v1 : Nat} {x2 : Int32} (k1 : post (some (.int x2)) (mk vi vl)) : wp X (d + 1) k_S_firstChanged 0 0 21 [some (.ref 0), some (.ref v1), some (.int x2)] [] (mk vi vl) post :=
  wr_iload_n (q := 2) (by decide +kernel) rfl rfl <|
  wr_ret (r := some (.int x2)) (Or.inr (Or.inl ⟨_, rfl, (by decide +kernel), (Or.inl rfl)⟩)) k1
theorem b_S_firstChanged_23 {X : aX} {d : Nat} {post : aO} {vi : Nat → Nat → Int32} {vl : Nat → Nat → Int64} {v1 : Nat} {x2 : Int32} (k1 : wp X (d + 1) k_S_firstChanged 0 0 2 [some (.ref 0), some (.ref v1), some (.int (x2 + (1 : Int32)))] [] (mk vi vl) post) : wp X (d + 1) k_S_firstChanged 0 0 23 [some (.ref 0), some (.ref v1), some (.int x2)] [] (mk vi vl) post :=
  wr_iinc (i := 2) (n := 1) (v := (1 : Int32)) (by decide +kernel) rfl (by decide) (by decide) <|
  wr_goto (off := -24) (t := 2) (by decide +kernel) (by decide) k1
theorem b_S_firstChanged_29 {X : aX} {d : Nat} {post : aO} {vi : Nat → Nat → Int32} {vl : Nat → Nat → Int64} {v1 : Nat} {x2 : Int32} (k1 : post (some (.int (-9 : Int32))) (mk vi vl)) : wp X (d + 1) k_S_firstChanged 0 0 29 [some (.ref 0), some (.ref v1), some (.int x2)] [] (mk vi vl) post :=
  wr_bipush (n := -9) (v := (-9 : Int32)) (by decide +kernel) (by decide) <|
  wr_ret (r := some (.int (-9 : Int32))) (Or.inr (Or.inl ⟨_, rfl, (by decide +kernel), (Or.inl rfl)⟩)) k1
theorem b_S_odds_0 {X : aX} {d : Nat} {post : aO} {vi : Nat → Nat → Int32} {vl : Nat → Nat → Int64} {x1 x2 : Int32} (k1 : CallOk X d 0 0 k_S_isScene [.int x1] (mk vi vl) (fun r N' => wp X (d + 1) k_S_odds 0 0 4 [some (.ref 0), some (.int x1), some (.int x2), none, none, none, none] (pR r []) N' post)) : wp X (d + 1) k_S_odds 0 0 0 [some (.ref 0), some (.int x1), some (.int x2), none, none, none, none] [] (mk vi vl) post :=
  wr_iload_n (q := 1) (by decide +kernel) rfl rfl <|
  wr_invS (mid2 := 31) (idx := 154) (b1 := 0) (b2 := 0) (c1 := 0) (c2 := 0) (as := [.int x1]) (st := []) pl_31 rfl (Nat.le_of_ble_eq_true rfl) rfl rfl lm_S_154 it_31 (by decide +kernel) k1
theorem b_S_odds_4 {X : aX} {d : Nat} {post : aO} {vi : Nat → Nat → Int32} {vl : Nat → Nat → Int64} {x1 x2 y0 : Int32} {o3 o4 o5 o6 : Option Value} (k1 : y0 = 0 → wp X (d + 1) k_S_odds 0 0 15 [some (.ref 0), some (.int x1), some (.int x2), o3, o4, o5, o6] [] (mk vi vl) post) (k2 : ¬ y0 = 0 → wp X (d + 1) k_S_odds 0 0 7 [some (.ref 0), some (.int x1), some (.int x2), o3, o4, o5, o6] [] (mk vi vl) post) : wp X (d + 1) k_S_odds 0 0 4 [some (.ref 0), some (.int x1), some (.int x2), o3, o4, o5, o6] [.int y0] (mk vi vl) post :=
  wr_if_eq (off := 11) (t := 15) (by decide +kernel) (by decide) k1 k2
theorem b_S_odds_7 {X : aX} {d : Nat} {post : aO} {vi : Nat → Nat → Int32} {vl : Nat → Nat → Int64} {x1 x2 : Int32} {o3 o4 o5 o6 : Option Value} (k1 : CallOk X d 0 0 k_S_isYear [.ref 0, .int x2] (mk vi vl) (fun r N' => wp X (d + 1) k_S_odds 0 0 12 [some (.ref 0), some (.int x1), some (.int x2), o3, o4, o5, o6] (pR r []) N' post)) : wp X (d + 1) k_S_odds 0 0 7 [some (.ref 0), some (.int x1), some (.int x2), o3, o4, o5, o6] [] (mk vi vl) post :=
  wr_aload_n (q := 0) (by decide +kernel) rfl rfl <|
  wr_iload_n (q := 2) (by decide +kernel) rfl rfl <|
  wr_invV (a := 0) (ci := 3) (mid2 := 45) (idx := 121) (b1 := 0) (b2 := 0) (c1 := 0) (c2 := 0) (as := [.int x2]) (st := []) pl_45 rfl (Nat.le_of_ble_eq_true rfl) rfl rfl lq_0 sq_0 (by decide) rfl lm_S_121 im_45 is_45 (by decide +kernel) k1
theorem b_S_odds_12 {X : aX} {d : Nat} {post : aO} {vi : Nat → Nat → Int32} {vl : Nat → Nat → Int64} {x1 x2 y0 : Int32} {o3 o4 o5 o6 : Option Value} (k1 : ¬ y0 = 0 → wp X (d + 1) k_S_odds 0 0 17 [some (.ref 0), some (.int x1), some (.int x2), o3, o4, o5, o6] [] (mk vi vl) post) (k2 : y0 = 0 → wp X (d + 1) k_S_odds 0 0 15 [some (.ref 0), some (.int x1), some (.int x2), o3, o4, o5, o6] [] (mk vi vl) post) : wp X (d + 1) k_S_odds 0 0 12 [some (.ref 0), some (.int x1), some (.int x2), o3, o4, o5, o6] [.int y0] (mk vi vl) post :=
  wr_if_ne (off := 5) (t := 17) (by decide +kernel) (by decide) k1 k2
theorem b_S_odds_15 {X : aX} {d : Nat} {post : aO} {vi : Nat → Nat → Int32} {vl : Nat → Nat → Int64} {x1 x2 : Int32} {o3 o4 o5 o6 : Option Value} (k1 : post (some (.int (-1 : Int32))) (mk vi vl)) : wp X (d + 1) k_S_odds 0 0 15 [some (.ref 0), some (.int x1), some (.int x2), o3, o4, o5, o6] [] (mk vi vl) post :=
  wr_iconst (n := -1) (v := (-1 : Int32)) (by decide +kernel) (by decide) <|
  wr_ret (r := some (.int (-1 : Int32))) (Or.inr (Or.inl ⟨_, rfl, (by decide +kernel), (Or.inl rfl)⟩)) k1
theorem b_S_odds_17 {X : aX} {d : Nat} {post : aO} {vi : Nat → Nat → Int32} {vl : Nat → Nat → Int64} {x1 x2 : Int32} {o3 o4 o5 o6 : Option Value} (k1 : CallOk X d 0 0 k_P_begin [.ref 26, .int (0 : Int32), .int (1 : Int32)] (mk vi vl) (fun r N' => wp X (d + 1) k_S_odds 0 0 26 [some (.ref 0), some (.int x1), some (.int x2), o3, o4, o5, o6] (pR r []) N' post)) : wp X (d + 1) k_S_odds 0 0 17 [some (.ref 0), some (.int x1), some (.int x2), o3, o4, o5, o6] [] (mk vi vl) post :=
  wr_aload_n (q := 0) (by decide +kernel) rfl rfl <|
  wr_getR2 (b := 26) (ci := 3) (k0 := 5) (idx := 35) lq_0 sq_0 (by decide) (by decide) lf_S_35 rfl vq_0_5 lq_26 (by decide +kernel) <|
  wr_iconst (n := 0) (v := (0 : Int32)) (by decide +kernel) (by decide) <|
  wr_iconst (n := 1) (v := (1 : Int32)) (by decide +kernel) (by decide) <|
  wr_invV (a := 26) (ci := 1) (mid2 := 79) (idx := 189) (b1 := 0) (b2 := 0) (c1 := 0) (c2 := 0) (as := [.int (0 : Int32), .int (1 : Int32)]) (st := []) pl_79 rfl (Nat.le_of_ble_eq_true rfl) rfl rfl lq_26 sq_26 (by decide) rfl lm_S_189 im_79 is_79 (by decide +kernel) k1
theorem b_S_odds_26 {X : aX} {d : Nat} {post : aO} {vi : Nat → Nat → Int32} {vl : Nat → Nat → Int64} {x1 x2 : Int32} {o3 o4 o5 o6 : Option Value} (k1 : CallOk X d 0 0 k_P_want [.ref 26, .int x2, .int ((1 : Int32) <<< (x1 &&& 31))] (mk vi vl) (fun r N' => wp X (d + 1) k_S_odds 0 0 37 [some (.ref 0), some (.int x1), some (.int x2), o3, o4, o5, o6] (pR r []) N' post)) : wp X (d + 1) k_S_odds 0 0 26 [some (.ref 0), some (.int x1), some (.int x2), o3, o4, o5, o6] [] (mk vi vl) post :=
  wr_aload_n (q := 0) (by decide +kernel) rfl rfl <|
  wr_getR2 (b := 26) (ci := 3) (k0 := 5) (idx := 35) lq_0 sq_0 (by decide) (by decide) lf_S_35 rfl vq_0_5 lq_26 (by decide +kernel) <|
  wr_iload_n (q := 2) (by decide +kernel) rfl rfl <|
  wr_iconst (n := 1) (v := (1 : Int32)) (by decide +kernel) (by decide) <|
  wr_iload_n (q := 1) (by decide +kernel) rfl rfl <|
  wr_ishl (by decide +kernel) <|
  wr_invV (a := 26) (ci := 1) (mid2 := 80) (idx := 192) (b1 := 0) (b2 := 0) (c1 := 0) (c2 := 0) (as := [.int x2, .int ((1 : Int32) <<< (x1 &&& 31))]) (st := []) pl_80 rfl (Nat.le_of_ble_eq_true rfl) rfl rfl lq_26 sq_26 (by decide) rfl lm_S_192 im_80 is_80 (by decide +kernel) k1
theorem b_S_odds_37 {X : aX} {d : Nat} {post : aO} {vi : Nat → Nat → Int32} {vl : Nat → Nat → Int64} {x1 x2 : Int32} {o3 o4 o5 o6 : Option Value} (k1 : CallOk X d 0 0 k_P_seek [.ref 26, .ref 3, .int (5 : Int32)] (mk vi vl) (fun r N' => wp X (d + 1) k_S_odds 0 0 49 [some (.ref 0), some (.int x1), some (.int x2), o3, o4, o5, o6] (pR r []) N' post)) : wp X (d + 1) k_S_odds 0 0 37 [some (.ref 0), some (.int x1), some (.int x2), o3, o4, o5, o6] [] (mk vi vl) post :=
  wr_aload_n (q := 0) (by decide +kernel) rfl rfl <|
  wr_getR2 (b := 26) (ci := 3) (k0 := 5) (idx := 35) lq_0 sq_0 (by decide) (by decide) lf_S_35 rfl vq_0_5 lq_26 (by decide +kernel) <|
  wr_aload_n (q := 0) (by decide +kernel) rfl rfl <|
  wr_getR2 (b := 3) (ci := 3) (k0 := 2) (idx := 21) lq_0 sq_0 (by decide) (by decide) lf_S_21 rfl vq_0_2 lq_3 (by decide +kernel) <|
  wr_iconst (n := 5) (v := (5 : Int32)) (by decide +kernel) (by decide) <|
  wr_invV (a := 26) (ci := 1) (mid2 := 82) (idx := 198) (b1 := 0) (b2 := 0) (c1 := 0) (c2 := 0) (as := [.ref 3, .int (5 : Int32)]) (st := []) pl_82 rfl (Nat.le_of_ble_eq_true rfl) rfl rfl lq_26 sq_26 (by decide) rfl lm_S_198 im_82 is_82 (by decide +kernel) k1
theorem b_S_odds_49 {X : aX} {d : Nat} {post : aO} {vi : Nat → Nat → Int32} {vl : Nat → Nat → Int64} {x1 x2 y0 : Int32} {o3 o4 o5 o6 : Option Value} (k1 : CallOk X d 0 0 k_C_yearsThatAre [.ref 3, .int (0 : Int32)] (mk vi vl) (fun r N' => wp X (d + 1) k_S_odds 0 0 61 [some (.ref 0), some (.int x1), some (.int x2), some (.int y0), some (.long (1 : Int64)), none, o6] (pR r []) N' post)) : wp X (d + 1) k_S_odds 0 0 49 [some (.ref 0), some (.int x1), some (.int x2), o3, o4, o5, o6] [.int y0] (mk vi vl) post :=
  wr_istore_n (q := 3) (by decide +kernel) rfl (by decide) <|
  wr_lconst (n := 1) (v := (1 : Int64)) (by decide +kernel) (by decide) <|
  wr_lstore (i := 4) (by decide +kernel) (by decide) <|
  wr_aload_n (q := 0) (by decide +kernel) rfl rfl <|
  wr_getR2 (b := 3) (ci := 3) (k0 := 2) (idx := 21) lq_0 sq_0 (by decide) (by decide) lf_S_21 rfl vq_0_2 lq_3 (by decide +kernel) <|
  wr_iconst (n := 0) (v := (0 : Int32)) (by decide +kernel) (by decide) <|
  wr_invV (a := 3) (ci := 0) (mid2 := 56) (idx := 151) (b1 := 0) (b2 := 0) (c1 := 0) (c2 := 0) (as := [.int (0 : Int32)]) (st := []) pl_56 rfl (Nat.le_of_ble_eq_true rfl) rfl rfl lq_3 sq_3 (by decide) rfl lm_S_151 im_56 is_56 (by decide +kernel) k1
theorem b_S_odds_61 {X : aX} {d : Nat} {post : aO} {vi : Nat → Nat → Int32} {vl : Nat → Nat → Int64} {x1 x2 x3 y0 : Int32} {x4 : Int64} {o6 : Option Value} (k1 : CallOk X d 0 0 k_J_bitCount [.int y0] (mk vi vl) (fun r N' => wp X (d + 1) k_S_odds 0 0 64 [some (.ref 0), some (.int x1), some (.int x2), some (.int x3), some (.long x4), none, o6] (pR r []) N' post)) : wp X (d + 1) k_S_odds 0 0 61 [some (.ref 0), some (.int x1), some (.int x2), some (.int x3), some (.long x4), none, o6] [.int y0] (mk vi vl) post :=
  wr_invS (mid2 := 55) (idx := 146) (b1 := 0) (b2 := 0) (c1 := 0) (c2 := 0) (as := [.int y0]) (st := []) pl_55 rfl (Nat.le_of_ble_eq_true rfl) rfl rfl lm_S_146 it_55 (by decide +kernel) k1
theorem b_S_odds_64 {X : aX} {d : Nat} {post : aO} {vi : Nat → Nat → Int32} {vl : Nat → Nat → Int64} {x1 x2 x3 y0 : Int32} {x4 : Int64} {o6 : Option Value} (k1 : wp X (d + 1) k_S_odds 0 0 66 [some (.ref 0), some (.int x1), some (.int x2), some (.int x3), some (.long x4), none, some (.int y0)] [] (mk vi vl) post) : wp X (d + 1) k_S_odds 0 0 64 [some (.ref 0), some (.int x1), some (.int x2), some (.int x3), some (.long x4), none, o6] [.int y0] (mk vi vl) post :=
  wr_istore (i := 6) (by decide +kernel) (by decide) <|
  k1
theorem b_S_odds_66 {X : aX} {d : Nat} {post : aO} {vi : Nat → Nat → Int32} {vl : Nat → Nat → Int64} {x1 x2 x3 x6 : Int32} {x4 : Int64} (k1 : x6 ≤ 0 → wp X (d + 1) k_S_odds 0 0 85 [some (.ref 0), some (.int x1), some (.int x2), some (.int x3), some (.long x4), none, some (.int x6)] [] (mk vi vl) post) (k2 : ¬ x6 ≤ 0 → wp X (d + 1) k_S_odds 0 0 71 [some (.ref 0), some (.int x1), some (.int x2), some (.int x3), some (.long x4), none, some (.int x6)] [] (mk vi vl) post) : wp X (d + 1) k_S_odds 0 0 66 [some (.ref 0), some (.int x1), some (.int x2), some (.int x3), some (.long x4), none, some (.int x6)] [] (mk vi vl) post :=
  wr_iload (i := 6) (by decide +kernel) rfl <|
  wr_if_le (off := 17) (t := 85) (by decide +kernel) (by decide) k1 k2
theorem b_S_odds_71 {X : aX} {d : Nat} {post : aO} {vi : Nat → Nat → Int32} {vl : Nat → Nat → Int64} {x1 x2 x3 x6 : Int32} {x4 : Int64} (k1 : wp X (d + 1) k_S_odds 0 0 66 [some (.ref 0), some (.int x1), some (.int x2), some (.int x3), some (.long (x4 * (6 : Int64))), none, some (.int (x6 + (-1 : Int32)))] [] (mk vi vl) post) : wp X (d + 1) k_S_odds 0 0 71 [some (.ref 0), some (.int x1), some (.int x2), some (.int x3), some (.long x4), none, some (.int x6)] [] (mk vi vl) post :=
  wr_lload (i := 4) (by decide +kernel) rfl <|
  wr_ldc2 (i := 241) (v := (6 : Int64)) (by decide +kernel) lj_S_241 <|
  wr_lmul (by decide +kernel) <|
  wr_lstore (i := 4) (by decide +kernel) (by decide) <|
  wr_iinc (i := 6) (n := -1) (v := (-1 : Int32)) (by decide +kernel) rfl (by decide) (by decide) <|
  wr_goto (off := -16) (t := 66) (by decide +kernel) (by decide) k1
theorem b_S_odds_85 {X : aX} {d : Nat} {post : aO} {vi : Nat → Nat → Int32} {vl : Nat → Nat → Int64} {x1 x2 x3 x6 : Int32} {x4 : Int64} (k1 : CallOk X d 0 0 k_S_tellFraction [.ref 0, .long x3.toInt64, .long x4] (mk vi vl) (fun r N' => wp X (d + 1) k_S_odds 0 0 93 [some (.ref 0), some (.int x1), some (.int x2), some (.int x3), some (.long x4), none, some (.int x6)] (pR r []) N' post)) : wp X (d + 1) k_S_odds 0 0 85 [some (.ref 0), some (.int x1), some (.int x2), some (.int x3), some (.long x4), none, some (.int x6)] [] (mk vi vl) post :=
  wr_aload_n (q := 0) (by decide +kernel) rfl rfl <|
  wr_iload_n (q := 3) (by decide +kernel) rfl rfl <|
  wr_i2l (by decide +kernel) <|
  wr_lload (i := 4) (by decide +kernel) rfl <|
  wr_invV (a := 0) (ci := 3) (mid2 := 90) (idx := 202) (b1 := 0) (b2 := 0) (c1 := 0) (c2 := 0) (as := [.long x3.toInt64, .long x4]) (st := []) pl_90 rfl (Nat.le_of_ble_eq_true rfl) rfl rfl lq_0 sq_0 (by decide) rfl lm_S_202 im_90 is_90 (by decide +kernel) k1
theorem b_S_odds_93 {X : aX} {d : Nat} {post : aO} {vi : Nat → Nat → Int32} {vl : Nat → Nat → Int64} {x1 x2 x3 x6 : Int32} {x4 : Int64} (k1 : post (some (.int (1 : Int32))) (mk vi vl)) : wp X (d + 1) k_S_odds 0 0 93 [some (.ref 0), some (.int x1), some (.int x2), some (.int x3), some (.long x4), none, some (.int x6)] [] (mk vi vl) post :=
  wr_iconst (n := 1) (v := (1 : Int32)) (by decide +kernel) (by decide) <|
  wr_ret (r := some (.int (1 : Int32))) (Or.inr (Or.inl ⟨_, rfl, (by decide +kernel), (Or.inl rfl)⟩)) k1
theorem b_S_lots_0 {X : aX} {d : Nat} {post : aO} {vi : Nat → Nat → Int32} {vl : Nat → Nat → Int64} {x1 x2 : Int32} (k1 : x1 < (1 : Int32) → wp X (d + 1) k_S_lots 0 0 25 [some (.ref 0), some (.int x1), some (.int x2), none, none, none, none] [] (mk vi vl) post) (k2 : ¬ x1 < (1 : Int32) → wp X (d + 1) k_S_lots 0 0 5 [some (.ref 0), some (.int x1), some (.int x2), none, none, none, none] [] (mk vi vl) post) : wp X (d + 1) k_S_lots 0 0 0 [some (.ref 0), some (.int x1), some (.int x2), none, none, none, none] [] (mk vi vl) post :=
  wr_iload_n (q := 1) (by decide +kernel) rfl rfl <|
  wr_iconst (n := 1) (v := (1 : Int32)) (by decide +kernel) (by decide) <|
  wr_icmp_lt (off := 23) (t := 25) (by decide +kernel) (by decide) k1 k2
theorem b_S_lots_5 {X : aX} {d : Nat} {post : aO} {vi : Nat → Nat → Int32} {vl : Nat → Nat → Int64} {x1 x2 : Int32} {o3 o4 o5 o6 : Option Value} (k1 : (10 : Int32) < x1 → wp X (d + 1) k_S_lots 0 0 25 [some (.ref 0), some (.int x1), some (.int x2), o3, o4, o5, o6] [] (mk vi vl) post) (k2 : ¬ (10 : Int32) < x1 → wp X (d + 1) k_S_lots 0 0 11 [some (.ref 0), some (.int x1), some (.int x2), o3, o4, o5, o6] [] (mk vi vl) post) : wp X (d + 1) k_S_lots 0 0 5 [some (.ref 0), some (.int x1), some (.int x2), o3, o4, o5, o6] [] (mk vi vl) post :=
  wr_iload_n (q := 1) (by decide +kernel) rfl rfl <|
  wr_bipush (n := 10) (v := (10 : Int32)) (by decide +kernel) (by decide) <|
  wr_icmp_gt (off := 17) (t := 25) (by decide +kernel) (by decide) k1 k2
theorem b_S_lots_11 {X : aX} {d : Nat} {post : aO} {vi : Nat → Nat → Int32} {vl : Nat → Nat → Int64} {x1 x2 : Int32} {o3 o4 o5 o6 : Option Value} (k1 : x2 < (1 : Int32) → wp X (d + 1) k_S_lots 0 0 25 [some (.ref 0), some (.int x1), some (.int x2), o3, o4, o5, o6] [] (mk vi vl) post) (k2 : ¬ x2 < (1 : Int32) → wp X (d + 1) k_S_lots 0 0 16 [some (.ref 0), some (.int x1), some (.int x2), o3, o4, o5, o6] [] (mk vi vl) post) : wp X (d + 1) k_S_lots 0 0 11 [some (.ref 0), some (.int x1), some (.int x2), o3, o4, o5, o6] [] (mk vi vl) post :=
  wr_iload_n (q := 2) (by decide +kernel) rfl rfl <|
  wr_iconst (n := 1) (v := (1 : Int32)) (by decide +kernel) (by decide) <|
  wr_icmp_lt (off := 12) (t := 25) (by decide +kernel) (by decide) k1 k2
theorem b_S_lots_16 {X : aX} {d : Nat} {post : aO} {vi : Nat → Nat → Int32} {vl : Nat → Nat → Int64} {x1 x2 : Int32} {o3 o4 o5 o6 : Option Value} (k1 : (lg_cmp x2.toInt64 (2147483647 : Int64)) < 0 → wp X (d + 1) k_S_lots 0 0 27 [some (.ref 0), some (.int x1), some (.int x2), o3, o4, o5, o6] [] (mk vi vl) post) (k2 : ¬ (lg_cmp x2.toInt64 (2147483647 : Int64)) < 0 → wp X (d + 1) k_S_lots 0 0 25 [some (.ref 0), some (.int x1), some (.int x2), o3, o4, o5, o6] [] (mk vi vl) post) : wp X (d + 1) k_S_lots 0 0 16 [some (.ref 0), some (.int x1), some (.int x2), o3, o4, o5, o6] [] (mk vi vl) post :=
  wr_iload_n (q := 2) (by decide +kernel) rfl rfl <|
  wr_i2l (by decide +kernel) <|
  wr_ldc2 (i := 243) (v := (2147483647 : Int64)) (by decide +kernel) lj_S_243 <|
  wr_lcmp (by decide +kernel) <|
  wr_if_lt (off := 5) (t := 27) (by decide +kernel) (by decide) k1 k2
theorem b_S_lots_25 {X : aX} {d : Nat} {post : aO} {vi : Nat → Nat → Int32} {vl : Nat → Nat → Int64} {x1 x2 : Int32} {o3 o4 o5 o6 : Option Value} (k1 : post (some (.int (-1 : Int32))) (mk vi vl)) : wp X (d + 1) k_S_lots 0 0 25 [some (.ref 0), some (.int x1), some (.int x2), o3, o4, o5, o6] [] (mk vi vl) post :=
  wr_iconst (n := -1) (v := (-1 : Int32)) (by decide +kernel) (by decide) <|
  wr_ret (r := some (.int (-1 : Int32))) (Or.inr (Or.inl ⟨_, rfl, (by decide +kernel), (Or.inl rfl)⟩)) k1
theorem b_S_lots_27 {X : aX} {d : Nat} {post : aO} {vi : Nat → Nat → Int32} {vl : Nat → Nat → Int64} {x1 x2 : Int32} {o3 o4 o5 o6 : Option Value} (k1 : ¬ (vi 3 0) = 0 → wp X (d + 1) k_S_lots 0 0 40 [some (.ref 0), some (.int x1), some (.int x2), o3, o4, o5, o6] [] (mk vi vl) post) (k2 : (vi 3 0) = 0 → wp X (d + 1) k_S_lots 0 0 37 [some (.ref 0), some (.int x1), some (.int x2), o3, o4, o5, o6] [] (mk vi vl) post) : wp X (d + 1) k_S_lots 0 0 27 [some (.ref 0), some (.int x1), some (.int x2), o3, o4, o5, o6] [] (mk vi vl) post :=
  wr_aload_n (q := 0) (by decide +kernel) rfl rfl <|
  wr_getR2 (b := 3) (ci := 3) (k0 := 2) (idx := 21) lq_0 sq_0 (by decide) (by decide) lf_S_21 rfl vq_0_2 lq_3 (by decide +kernel) <|
  wr_getI (ci := 0) (k0 := 0) (idx := 118) lq_3 sq_3 (by decide) (by decide) lf_S_118 (Or.inl rfl) (by decide +kernel) <|
  wr_if_ne (off := 6) (t := 40) (by decide +kernel) (by decide) k1 k2
theorem b_S_lots_37 {X : aX} {d : Nat} {post : aO} {vi : Nat → Nat → Int32} {vl : Nat → Nat → Int64} {x1 x2 : Int32} {o3 o4 o5 o6 : Option Value} (k1 : post (some (.int (-4 : Int32))) (mk vi vl)) : wp X (d + 1) k_S_lots 0 0 37 [some (.ref 0), some (.int x1), some (.int x2), o3, o4, o5, o6] [] (mk vi vl) post :=
  wr_bipush (n := -4) (v := (-4 : Int32)) (by decide +kernel) (by decide) <|
  wr_ret (r := some (.int (-4 : Int32))) (Or.inr (Or.inl ⟨_, rfl, (by decide +kernel), (Or.inl rfl)⟩)) k1
theorem b_S_lots_40 {X : aX} {d : Nat} {post : aO} {vi : Nat → Nat → Int32} {vl : Nat → Nat → Int64} {x1 x2 : Int32} {o3 o4 o5 o6 : Option Value} (k1 : ((vi 3 7) + x1) ≤ (40 : Int32) → wp X (d + 1) k_S_lots 0 0 57 [some (.ref 0), some (.int x1), some (.int x2), o3, o4, o5, o6] [] (mk vi vl) post) (k2 : ¬ ((vi 3 7) + x1) ≤ (40 : Int32) → wp X (d + 1) k_S_lots 0 0 54 [some (.ref 0), some (.int x1), some (.int x2), o3, o4, o5, o6] [] (mk vi vl) post) : wp X (d + 1) k_S_lots 0 0 40 [some (.ref 0), some (.int x1), some (.int x2), o3, o4, o5, o6] [] (mk vi vl) post :=
  wr_aload_n (q := 0) (by decide +kernel) rfl rfl <|
  wr_getR2 (b := 3) (ci := 3) (k0 := 2) (idx := 21) lq_0 sq_0 (by decide) (by decide) lf_S_21 rfl vq_0_2 lq_3 (by decide +kernel) <|
  wr_getI (ci := 0) (k0 := 7) (idx := 157) lq_3 sq_3 (by decide) (by decide) lf_S_157 (Or.inl rfl) (by decide +kernel) <|
  wr_iload_n (q := 1) (by decide +kernel) rfl rfl <|
  wr_iadd (by decide +kernel) <|
  wr_bipush (n := 40) (v := (40 : Int32)) (by decide +kernel) (by decide) <|
  wr_icmp_le (off := 6) (t := 57) (by decide +kernel) (by decide) k1 k2
theorem b_S_lots_54 {X : aX} {d : Nat} {post : aO} {vi : Nat → Nat → Int32} {vl : Nat → Nat → Int64} {x1 x2 : Int32} {o3 o4 o5 o6 : Option Value} (k1 : post (some (.int (-2 : Int32))) (mk vi vl)) : wp X (d + 1) k_S_lots 0 0 54 [some (.ref 0), some (.int x1), some (.int x2), o3, o4, o5, o6] [] (mk vi vl) post :=
  wr_bipush (n := -2) (v := (-2 : Int32)) (by decide +kernel) (by decide) <|
  wr_ret (r := some (.int (-2 : Int32))) (Or.inr (Or.inl ⟨_, rfl, (by decide +kernel), (Or.inl rfl)⟩)) k1
theorem b_S_lots_57 {X : aX} {d : Nat} {post : aO} {vi : Nat → Nat → Int32} {vl : Nat → Nat → Int64} {x1 x2 : Int32} {o3 o4 o5 o6 : Option Value} (k1 : wp X (d + 1) k_S_lots 0 0 63 [some (.ref 0), some (.int x1), some (.int x2), some (.long x2.toInt64), none, some (.int (0 : Int32)), o6] [] (mk vi vl) post) : wp X (d + 1) k_S_lots 0 0 57 [some (.ref 0), some (.int x1), some (.int x2), o3, o4, o5, o6] [] (mk vi vl) post :=
  wr_iload_n (q := 2) (by decide +kernel) rfl rfl <|
  wr_i2l (by decide +kernel) <|
  wr_lstore_n (q := 3) (by decide +kernel) rfl (by decide) <|
  wr_iconst (n := 0) (v := (0 : Int32)) (by decide +kernel) (by decide) <|
  wr_istore (i := 5) (by decide +kernel) (by decide) <|
  k1
theorem b_S_lots_63 {X : aX} {d : Nat} {post : aO} {vi : Nat → Nat → Int32} {vl : Nat → Nat → Int64} {x1 x2 x5 : Int32} {x3 : Int64} {o6 : Option Value} (k1 : x1 ≤ x5 → wp X (d + 1) k_S_lots 0 0 135 [some (.ref 0), some (.int x1), some (.int x2), some (.long x3), none, some (.int x5), o6] [] (mk vi vl) post) (k2 : ¬ x1 ≤ x5 → wp X (d + 1) k_S_lots 0 0 69 [some (.ref 0), some (.int x1), some (.int x2), some (.long x3), none, some (.int x5), o6] [] (mk vi vl) post) : wp X (d + 1) k_S_lots 0 0 63 [some (.ref 0), some (.int x1), some (.int x2), some (.long x3), none, some (.int x5), o6] [] (mk vi vl) post :=
  wr_iload (i := 5) (by decide +kernel) rfl <|
  wr_iload_n (q := 1) (by decide +kernel) rfl rfl <|
  wr_icmp_ge (off := 69) (t := 135) (by decide +kernel) (by decide) k1 k2
theorem b_S_lots_69 {X : aX} {d : Nat} {post : aO} {vi : Nat → Nat → Int32} {vl : Nat → Nat → Int64} {x1 x2 x5 : Int32} {x3 : Int64} {o6 : Option Value} (q1 : ¬ ((vi 3 0).toInt64) = 0) (q2 : vp_in ((((x3 * (48271 : Int64)) - (x3 * (48271 : Int64)) / (2147483647 : Int64) * (2147483647 : Int64)) - ((x3 * (48271 : Int64)) - (x3 * (48271 : Int64)) / (2147483647 : Int64) * (2147483647 : Int64)) / ((vi 3 0).toInt64) * ((vi 3 0).toInt64)).toInt32) 5) (k1 : ¬ (vi 4 ((((x3 * (48271 : Int64)) - (x3 * (48271 : Int64)) / (2147483647 : Int64) * (2147483647 : Int64)) - ((x3 * (48271 : Int64)) - (x3 * (48271 : Int64)) / (2147483647 : Int64) * (2147483647 : Int64)) / ((vi 3 0).toInt64) * ((vi 3 0).toInt64)).toInt32).toNatClampNeg) = (1 : Int32) → wp X (d + 1) k_S_lots 0 0 116 [some (.ref 0), some (.int x1), some (.int x2), some (.long ((x3 * (48271 : Int64)) - (x3 * (48271 : Int64)) / (2147483647 : Int64) * (2147483647 : Int64))), none, some (.int x5), some (.int ((((x3 * (48271 : Int64)) - (x3 * (48271 : Int64)) / (2147483647 : Int64) * (2147483647 : Int64)) - ((x3 * (48271 : Int64)) - (x3 * (48271 : Int64)) / (2147483647 : Int64) * (2147483647 : Int64)) / ((vi 3 0).toInt64) * ((vi 3 0).toInt64)).toInt32))] [.int ((((x3 * (48271 : Int64)) - (x3 * (48271 : Int64)) / (2147483647 : Int64) * (2147483647 : Int64)) - ((x3 * (48271 : Int64)) - (x3 * (48271 : Int64)) / (2147483647 : Int64) * (2147483647 : Int64)) / ((vi 3 0).toInt64) * ((vi 3 0).toInt64)).toInt32), .ref 3] (mk vi vl) post) (k2 : (vi 4 ((((x3 * (48271 : Int64)) - (x3 * (48271 : Int64)) / (2147483647 : Int64) * (2147483647 : Int64)) - ((x3 * (48271 : Int64)) - (x3 * (48271 : Int64)) / (2147483647 : Int64) * (2147483647 : Int64)) / ((vi 3 0).toInt64) * ((vi 3 0).toInt64)).toInt32).toNatClampNeg) = (1 : Int32) → wp X (d + 1) k_S_lots 0 0 112 [some (.ref 0), some (.int x1), some (.int x2), some (.long ((x3 * (48271 : Int64)) - (x3 * (48271 : Int64)) / (2147483647 : Int64) * (2147483647 : Int64))), none, some (.int x5), some (.int ((((x3 * (48271 : Int64)) - (x3 * (48271 : Int64)) / (2147483647 : Int64) * (2147483647 : Int64)) - ((x3 * (48271 : Int64)) - (x3 * (48271 : Int64)) / (2147483647 : Int64) * (2147483647 : Int64)) / ((vi 3 0).toInt64) * ((vi 3 0).toInt64)).toInt32))] [.int ((((x3 * (48271 : Int64)) - (x3 * (48271 : Int64)) / (2147483647 : Int64) * (2147483647 : Int64)) - ((x3 * (48271 : Int64)) - (x3 * (48271 : Int64)) / (2147483647 : Int64) * (2147483647 : Int64)) / ((vi 3 0).toInt64) * ((vi 3 0).toInt64)).toInt32), .ref 3] (mk vi vl) post) : wp X (d + 1) k_S_lots 0 0 69 [some (.ref 0), some (.int x1), some (.int x2), some (.long x3), none, some (.int x5), o6] [] (mk vi vl) post :=
  wr_lload_n (q := 3) (by decide +kernel) rfl rfl <|
  wr_ldc2 (i := 245) (v := (48271 : Int64)) (by decide +kernel) lj_S_245 <|
  wr_lmul (by decide +kernel) <|
  wr_ldc2 (i := 243) (v := (2147483647 : Int64)) (by decide +kernel) lj_S_243 <|
  wr_lrem (by decide +kernel) (by decide) <|
  wr_lstore_n (q := 3) (by decide +kernel) rfl (by decide) <|
  wr_lload_n (q := 3) (by decide +kernel) rfl rfl <|
  wr_aload_n (q := 0) (by decide +kernel) rfl rfl <|
  wr_getR2 (b := 3) (ci := 3) (k0 := 2) (idx := 21) lq_0 sq_0 (by decide) (by decide) lf_S_21 rfl vq_0_2 lq_3 (by decide +kernel) <|
  wr_getI (ci := 0) (k0 := 0) (idx := 118) lq_3 sq_3 (by decide) (by decide) lf_S_118 (Or.inl rfl) (by decide +kernel) <|
  wr_i2l (by decide +kernel) <|
  wr_lrem (by decide +kernel) q1 <|
  wr_l2i (by decide +kernel) <|
  wr_istore (i := 6) (by decide +kernel) (by decide) <|
  wr_aload_n (q := 0) (by decide +kernel) rfl rfl <|
  wr_getR2 (b := 3) (ci := 3) (k0 := 2) (idx := 21) lq_0 sq_0 (by decide) (by decide) lf_S_21 rfl vq_0_2 lq_3 (by decide +kernel) <|
  wr_iload (i := 6) (by decide +kernel) rfl <|
  wr_aload_n (q := 0) (by decide +kernel) rfl rfl <|
  wr_getR2 (b := 3) (ci := 3) (k0 := 2) (idx := 21) lq_0 sq_0 (by decide) (by decide) lf_S_21 rfl vq_0_2 lq_3 (by decide +kernel) <|
  wr_getR2 (b := 4) (ci := 0) (k0 := 1) (idx := 179) lq_3 sq_3 (by decide) (by decide) lf_S_179 rfl vq_3_1 lq_4 (by decide +kernel) <|
  wr_iload (i := 6) (by decide +kernel) rfl <|
  wr_iald lq_4 sq_4 q2 (by decide +kernel) <|
  wr_iconst (n := 1) (v := (1 : Int32)) (by decide +kernel) (by decide) <|
  wr_icmp_ne (off := 7) (t := 116) (by decide +kernel) (by decide) k1 k2
theorem b_S_lots_112 {X : aX} {d : Nat} {post : aO} {vi : Nat → Nat → Int32} {vl : Nat → Nat → Int64} {x1 x2 x5 x6 y1 : Int32} {x3 : Int64} (k1 : wp X (d + 1) k_S_lots 0 0 126 [some (.ref 0), some (.int x1), some (.int x2), some (.long x3), none, some (.int x5), some (.int x6)] [.int (5 : Int32), .int y1, .ref 3] (mk vi vl) post) : wp X (d + 1) k_S_lots 0 0 112 [some (.ref 0), some (.int x1), some (.int x2), some (.long x3), none, some (.int x5), some (.int x6)] [.int y1, .ref 3] (mk vi vl) post :=
  wr_iconst (n := 5) (v := (5 : Int32)) (by decide +kernel) (by decide) <|
  wr_goto (off := 13) (t := 126) (by decide +kernel) (by decide) k1
theorem b_S_lots_116 {X : aX} {d : Nat} {post : aO} {vi : Nat → Nat → Int32} {vl : Nat → Nat → Int64} {x1 x2 x5 x6 y1 : Int32} {x3 : Int64} (k1 : wp X (d + 1) k_S_lots 0 0 126 [some (.ref 0), some (.int x1), some (.int x2), some (.long x3), none, some (.int x5), some (.int x6)] [.int (((x3 / (32 : Int64)) - (x3 / (32 : Int64)) / (5 : Int64) * (5 : Int64)).toInt32), .int y1, .ref 3] (mk vi vl) post) : wp X (d + 1) k_S_lots 0 0 116 [some (.ref 0), some (.int x1), some (.int x2), some (.long x3), none, some (.int x5), some (.int x6)] [.int y1, .ref 3] (mk vi vl) post :=
  wr_lload_n (q := 3) (by decide +kernel) rfl rfl <|
  wr_ldc2 (i := 247) (v := (32 : Int64)) (by decide +kernel) lj_S_247 <|
  wr_ldiv (by decide +kernel) (by decide) <|
  wr_ldc2 (i := 249) (v := (5 : Int64)) (by decide +kernel) lj_S_249 <|
  wr_lrem (by decide +kernel) (by decide) <|
  wr_l2i (by decide +kernel) <|
  k1
theorem b_S_lots_126 {X : aX} {d : Nat} {post : aO} {vi : Nat → Nat → Int32} {vl : Nat → Nat → Int64} {x1 x2 x5 x6 y1 y2 : Int32} {x3 : Int64} (k1 : CallOk X d 0 0 k_C_stitch [.ref 3, .int y1, .int y2] (mk vi vl) (fun r N' => wp X (d + 1) k_S_lots 0 0 129 [some (.ref 0), some (.int x1), some (.int x2), some (.long x3), none, some (.int x5), some (.int x6)] (pR r []) N' post)) : wp X (d + 1) k_S_lots 0 0 126 [some (.ref 0), some (.int x1), some (.int x2), some (.long x3), none, some (.int x5), some (.int x6)] [.int y2, .int y1, .ref 3] (mk vi vl) post :=
  wr_invV (a := 3) (ci := 0) (mid2 := 61) (idx := 251) (b1 := 0) (b2 := 0) (c1 := 0) (c2 := 0) (as := [.int y1, .int y2]) (st := []) pl_61 rfl (Nat.le_of_ble_eq_true rfl) rfl rfl lq_3 sq_3 (by decide) rfl lm_S_251 im_61 is_61 (by decide +kernel) k1
theorem b_S_lots_129 {X : aX} {d : Nat} {post : aO} {vi : Nat → Nat → Int32} {vl : Nat → Nat → Int64} {x1 x2 x5 x6 : Int32} {x3 : Int64} (k1 : wp X (d + 1) k_S_lots 0 0 63 [some (.ref 0), some (.int x1), some (.int x2), some (.long x3), none, some (.int (x5 + (1 : Int32))), some (.int x6)] [] (mk vi vl) post) : wp X (d + 1) k_S_lots 0 0 129 [some (.ref 0), some (.int x1), some (.int x2), some (.long x3), none, some (.int x5), some (.int x6)] [] (mk vi vl) post :=
  wr_iinc (i := 5) (n := 1) (v := (1 : Int32)) (by decide +kernel) rfl (by decide) (by decide) <|
  wr_goto (off := -69) (t := 63) (by decide +kernel) (by decide) k1
theorem b_S_lots_135 {X : aX} {d : Nat} {post : aO} {vi : Nat → Nat → Int32} {vl : Nat → Nat → Int64} {x1 x2 x5 : Int32} {x3 : Int64} {o6 : Option Value} (k1 : CallOk X d 0 0 k_C_brokenLaws [.ref 3] (mk vi vl) (fun r N' => wp X (d + 1) k_S_lots 0 0 142 [some (.ref 0), some (.int x1), some (.int x2), some (.long x3), none, some (.int x5), o6] (pR r []) N' post)) : wp X (d + 1) k_S_lots 0 0 135 [some (.ref 0), some (.int x1), some (.int x2), some (.long x3), none, some (.int x5), o6] [] (mk vi vl) post :=
  wr_aload_n (q := 0) (by decide +kernel) rfl rfl <|
  wr_getR2 (b := 3) (ci := 3) (k0 := 2) (idx := 21) lq_0 sq_0 (by decide) (by decide) lf_S_21 rfl vq_0_2 lq_3 (by decide +kernel) <|
  wr_invV (a := 3) (ci := 0) (mid2 := 63) (idx := 172) (b1 := 0) (b2 := 0) (c1 := 0) (c2 := 0) (as := []) (st := []) pl_63 rfl (Nat.le_of_ble_eq_true rfl) rfl rfl lq_3 sq_3 (by decide) rfl lm_S_172 im_63 is_63 (by decide +kernel) k1
theorem b_S_lots_142 {X : aX} {d : Nat} {post : aO} {vi : Nat → Nat → Int32} {vl : Nat → Nat → Int64} {x1 x2 x5 y0 : Int32} {x3 : Int64} {o6 : Option Value} (k1 : CallOk X d 0 0 k_J_bitCount [.int y0] (mk vi vl) (fun r N' => wp X (d + 1) k_S_lots 0 0 145 [some (.ref 0), some (.int x1), some (.int x2), some (.long x3), none, some (.int x5), o6] (pR r []) N' post)) : wp X (d + 1) k_S_lots 0 0 142 [some (.ref 0), some (.int x1), some (.int x2), some (.long x3), none, some (.int x5), o6] [.int y0] (mk vi vl) post :=
  wr_invS (mid2 := 55) (idx := 146) (b1 := 0) (b2 := 0) (c1 := 0) (c2 := 0) (as := [.int y0]) (st := []) pl_55 rfl (Nat.le_of_ble_eq_true rfl) rfl rfl lm_S_146 it_55 (by decide +kernel) k1
theorem b_S_lots_145 {X : aX} {d : Nat} {post : aO} {vi : Nat → Nat → Int32} {vl : Nat → Nat → Int64} {x1 x2 x5 y0 : Int32} {x3 : Int64} {o6 : Option Value} (k1 : post (some (.int y0)) (mk vi vl)) : wp X (d + 1) k_S_lots 0 0 145 [some (.ref 0), some (.int x1), some (.int x2), some (.long x3), none, some (.int x5), o6] [.int y0] (mk vi vl) post :=
  wr_ret (r := some (.int y0)) (Or.inr (Or.inl ⟨_, rfl, (by decide +kernel), (Or.inl rfl)⟩)) k1
theorem b_S_asked_0 {X : aX} {d : Nat} {post : aO} {vi : Nat → Nat → Int32} {vl : Nat → Nat → Int64}  (k1 : post (some (.int (vi 0 8))) (mk vi vl)) : wp X (d + 1) k_S_asked 0 0 0 [some (.ref 0)] [] (mk vi vl) post :=
  wr_aload_n (q := 0) (by decide +kernel) rfl rfl <|
  wr_getI (ci := 3) (k0 := 8) (idx := 47) lq_0 sq_0 (by decide) (by decide) lf_S_47 (Or.inl rfl) (by decide +kernel) <|
  wr_ret (r := some (.int (vi 0 8))) (Or.inr (Or.inl ⟨_, rfl, (by decide +kernel), (Or.inl rfl)⟩)) k1
theorem b_S_upper_0 {X : aX} {d : Nat} {post : aO} {vi : Nat → Nat → Int32} {vl : Nat → Nat → Int64}  (k1 : post (some (.long (vl 0 9))) (mk vi vl)) : wp X (d + 1) k_S_upper 0 0 0 [some (.ref 0)] [] (mk vi vl) post :=
  wr_aload_n (q := 0) (by decide +kernel) rfl rfl <|
  wr_getL (ci := 3) (k0 := 9) (idx := 50) lq_0 sq_0 (by decide) (by decide) lf_S_50 rfl (by decide +kernel) <|
  wr_ret (r := some (.long (vl 0 9))) (Or.inr (Or.inr ⟨_, rfl, (by decide +kernel), rfl⟩)) k1
theorem b_S_lower_0 {X : aX} {d : Nat} {post : aO} {vi : Nat → Nat → Int32} {vl : Nat → Nat → Int64}  (k1 : post (some (.long (vl 0 10))) (mk vi vl)) : wp X (d + 1) k_S_lower 0 0 0 [some (.ref 0)] [] (mk vi vl) post :=
  wr_aload_n (q := 0) (by decide +kernel) rfl rfl <|
  wr_getL (ci := 3) (k0 := 10) (idx := 54) lq_0 sq_0 (by decide) (by decide) lf_S_54 rfl (by decide +kernel) <|
  wr_ret (r := some (.long (vl 0 10))) (Or.inr (Or.inr ⟨_, rfl, (by decide +kernel), rfl⟩)) k1
theorem b_S_count_0 {X : aX} {d : Nat} {post : aO} {vi : Nat → Nat → Int32} {vl : Nat → Nat → Int64} {x1 : Int32} (k1 : swk (fun t => wp X (d + 1) k_S_count 0 0 t [some (.ref 0), some (.int x1)] [] (mk vi vl) post) 129 x1 [((0 : Int32), 52), ((1 : Int32), 60), ((2 : Int32), 68), ((3 : Int32), 76), ((4 : Int32), 88), ((5 : Int32), 99), ((6 : Int32), 108), ((7 : Int32), 116), ((8 : Int32), 124)]) : wp X (d + 1) k_S_count 0 0 0 [some (.ref 0), some (.int x1)] [] (mk vi vl) post :=
  wr_iload_n (q := 1) (by decide +kernel) rfl rfl <|
  wr_tsw (dflt := 128) (lo := 0) (hi := 8) (offs := #[51, 59, 67, 75, 87, 98, 107, 115, 123]) (len := 51) (dt := 129) (ts := [((0 : Int32), 52), ((1 : Int32), 60), ((2 : Int32), 68), ((3 : Int32), 76), ((4 : Int32), 88), ((5 : Int32), 99), ((6 : Int32), 108), ((7 : Int32), 116), ((8 : Int32), 124)]) (by decide +kernel) (by decide +kernel) (by decide) (by decide) k1
theorem b_S_count_52 {X : aX} {d : Nat} {post : aO} {vi : Nat → Nat → Int32} {vl : Nat → Nat → Int64} {x1 : Int32} (k1 : post (some (.int (vi 3 0))) (mk vi vl)) : wp X (d + 1) k_S_count 0 0 52 [some (.ref 0), some (.int x1)] [] (mk vi vl) post :=
  wr_aload_n (q := 0) (by decide +kernel) rfl rfl <|
  wr_getR2 (b := 3) (ci := 3) (k0 := 2) (idx := 21) lq_0 sq_0 (by decide) (by decide) lf_S_21 rfl vq_0_2 lq_3 (by decide +kernel) <|
  wr_getI (ci := 0) (k0 := 0) (idx := 118) lq_3 sq_3 (by decide) (by decide) lf_S_118 (Or.inl rfl) (by decide +kernel) <|
  wr_ret (r := some (.int (vi 3 0))) (Or.inr (Or.inl ⟨_, rfl, (by decide +kernel), (Or.inl rfl)⟩)) k1
theorem b_S_count_60 {X : aX} {d : Nat} {post : aO} {vi : Nat → Nat → Int32} {vl : Nat → Nat → Int64} {x1 : Int32} (k1 : post (some (.int (vi 3 3))) (mk vi vl)) : wp X (d + 1) k_S_count 0 0 60 [some (.ref 0), some (.int x1)] [] (mk vi vl) post :=
  wr_aload_n (q := 0) (by decide +kernel) rfl rfl <|
  wr_getR2 (b := 3) (ci := 3) (k0 := 2) (idx := 21) lq_0 sq_0 (by decide) (by decide) lf_S_21 rfl vq_0_2 lq_3 (by decide +kernel) <|
  wr_getI (ci := 0) (k0 := 3) (idx := 225) lq_3 sq_3 (by decide) (by decide) lf_S_225 (Or.inl rfl) (by decide +kernel) <|
  wr_ret (r := some (.int (vi 3 3))) (Or.inr (Or.inl ⟨_, rfl, (by decide +kernel), (Or.inl rfl)⟩)) k1
theorem b_S_count_68 {X : aX} {d : Nat} {post : aO} {vi : Nat → Nat → Int32} {vl : Nat → Nat → Int64} {x1 : Int32} (k1 : post (some (.int (vi 3 7))) (mk vi vl)) : wp X (d + 1) k_S_count 0 0 68 [some (.ref 0), some (.int x1)] [] (mk vi vl) post :=
  wr_aload_n (q := 0) (by decide +kernel) rfl rfl <|
  wr_getR2 (b := 3) (ci := 3) (k0 := 2) (idx := 21) lq_0 sq_0 (by decide) (by decide) lf_S_21 rfl vq_0_2 lq_3 (by decide +kernel) <|
  wr_getI (ci := 0) (k0 := 7) (idx := 157) lq_3 sq_3 (by decide) (by decide) lf_S_157 (Or.inl rfl) (by decide +kernel) <|
  wr_ret (r := some (.int (vi 3 7))) (Or.inr (Or.inl ⟨_, rfl, (by decide +kernel), (Or.inl rfl)⟩)) k1
theorem b_S_count_76 {X : aX} {d : Nat} {post : aO} {vi : Nat → Nat → Int32} {vl : Nat → Nat → Int64} {x1 : Int32} (k1 : CallOk X d 0 0 k_C_yearsThatAre [.ref 3, .int (2 : Int32)] (mk vi vl) (fun r N' => wp X (d + 1) k_S_count 0 0 84 [some (.ref 0), some (.int x1)] (pR r []) N' post)) : wp X (d + 1) k_S_count 0 0 76 [some (.ref 0), some (.int x1)] [] (mk vi vl) post :=
  wr_aload_n (q := 0) (by decide +kernel) rfl rfl <|
  wr_getR2 (b := 3) (ci := 3) (k0 := 2) (idx := 21) lq_0 sq_0 (by decide) (by decide) lf_S_21 rfl vq_0_2 lq_3 (by decide +kernel) <|
  wr_iconst (n := 2) (v := (2 : Int32)) (by decide +kernel) (by decide) <|
  wr_invV (a := 3) (ci := 0) (mid2 := 56) (idx := 151) (b1 := 0) (b2 := 0) (c1 := 0) (c2 := 0) (as := [.int (2 : Int32)]) (st := []) pl_56 rfl (Nat.le_of_ble_eq_true rfl) rfl rfl lq_3 sq_3 (by decide) rfl lm_S_151 im_56 is_56 (by decide +kernel) k1
theorem b_S_count_84 {X : aX} {d : Nat} {post : aO} {vi : Nat → Nat → Int32} {vl : Nat → Nat → Int64} {x1 y0 : Int32} (k1 : CallOk X d 0 0 k_J_bitCount [.int y0] (mk vi vl) (fun r N' => wp X (d + 1) k_S_count 0 0 87 [some (.ref 0), some (.int x1)] (pR r []) N' post)) : wp X (d + 1) k_S_count 0 0 84 [some (.ref 0), some (.int x1)] [.int y0] (mk vi vl) post :=
  wr_invS (mid2 := 55) (idx := 146) (b1 := 0) (b2 := 0) (c1 := 0) (c2 := 0) (as := [.int y0]) (st := []) pl_55 rfl (Nat.le_of_ble_eq_true rfl) rfl rfl lm_S_146 it_55 (by decide +kernel) k1
theorem b_S_count_87 {X : aX} {d : Nat} {post : aO} {vi : Nat → Nat → Int32} {vl : Nat → Nat → Int64} {x1 y0 : Int32} (k1 : post (some (.int y0)) (mk vi vl)) : wp X (d + 1) k_S_count 0 0 87 [some (.ref 0), some (.int x1)] [.int y0] (mk vi vl) post :=
  wr_ret (r := some (.int y0)) (Or.inr (Or.inl ⟨_, rfl, (by decide +kernel), (Or.inl rfl)⟩)) k1
theorem b_S_count_88 {X : aX} {d : Nat} {post : aO} {vi : Nat → Nat → Int32} {vl : Nat → Nat → Int64} {x1 : Int32} (k1 : CallOk X d 0 0 k_C_yearsWithSomething [.ref 3] (mk vi vl) (fun r N' => wp X (d + 1) k_S_count 0 0 95 [some (.ref 0), some (.int x1)] (pR r []) N' post)) : wp X (d + 1) k_S_count 0 0 88 [some (.ref 0), some (.int x1)] [] (mk vi vl) post :=
  wr_aload_n (q := 0) (by decide +kernel) rfl rfl <|
  wr_getR2 (b := 3) (ci := 3) (k0 := 2) (idx := 21) lq_0 sq_0 (by decide) (by decide) lf_S_21 rfl vq_0_2 lq_3 (by decide +kernel) <|
  wr_invV (a := 3) (ci := 0) (mid2 := 94) (idx := 212) (b1 := 0) (b2 := 0) (c1 := 0) (c2 := 0) (as := []) (st := []) pl_94 rfl (Nat.le_of_ble_eq_true rfl) rfl rfl lq_3 sq_3 (by decide) rfl lm_S_212 im_94 is_94 (by decide +kernel) k1
theorem b_S_count_95 {X : aX} {d : Nat} {post : aO} {vi : Nat → Nat → Int32} {vl : Nat → Nat → Int64} {x1 y0 : Int32} (k1 : CallOk X d 0 0 k_J_bitCount [.int y0] (mk vi vl) (fun r N' => wp X (d + 1) k_S_count 0 0 98 [some (.ref 0), some (.int x1)] (pR r []) N' post)) : wp X (d + 1) k_S_count 0 0 95 [some (.ref 0), some (.int x1)] [.int y0] (mk vi vl) post :=
  wr_invS (mid2 := 55) (idx := 146) (b1 := 0) (b2 := 0) (c1 := 0) (c2 := 0) (as := [.int y0]) (st := []) pl_55 rfl (Nat.le_of_ble_eq_true rfl) rfl rfl lm_S_146 it_55 (by decide +kernel) k1
theorem b_S_count_98 {X : aX} {d : Nat} {post : aO} {vi : Nat → Nat → Int32} {vl : Nat → Nat → Int64} {x1 y0 : Int32} (k1 : post (some (.int y0)) (mk vi vl)) : wp X (d + 1) k_S_count 0 0 98 [some (.ref 0), some (.int x1)] [.int y0] (mk vi vl) post :=
  wr_ret (r := some (.int y0)) (Or.inr (Or.inl ⟨_, rfl, (by decide +kernel), (Or.inl rfl)⟩)) k1
theorem b_S_count_99 {X : aX} {d : Nat} {post : aO} {vi : Nat → Nat → Int32} {vl : Nat → Nat → Int64} {x1 : Int32} (k1 : CallOk X d 0 0 k_C_lawsOfKind [.ref 3, .int (1 : Int32)] (mk vi vl) (fun r N' => wp X (d + 1) k_S_count 0 0 107 [some (.ref 0), some (.int x1)] (pR r []) N' post)) : wp X (d + 1) k_S_count 0 0 99 [some (.ref 0), some (.int x1)] [] (mk vi vl) post :=
  wr_aload_n (q := 0) (by decide +kernel) rfl rfl <|
  wr_getR2 (b := 3) (ci := 3) (k0 := 2) (idx := 21) lq_0 sq_0 (by decide) (by decide) lf_S_21 rfl vq_0_2 lq_3 (by decide +kernel) <|
  wr_iconst (n := 1) (v := (1 : Int32)) (by decide +kernel) (by decide) <|
  wr_invV (a := 3) (ci := 0) (mid2 := 108) (idx := 254) (b1 := 0) (b2 := 0) (c1 := 0) (c2 := 0) (as := [.int (1 : Int32)]) (st := []) pl_108 rfl (Nat.le_of_ble_eq_true rfl) rfl rfl lq_3 sq_3 (by decide) rfl lm_S_254 im_108 is_108 (by decide +kernel) k1
theorem b_S_count_107 {X : aX} {d : Nat} {post : aO} {vi : Nat → Nat → Int32} {vl : Nat → Nat → Int64} {x1 y0 : Int32} (k1 : post (some (.int y0)) (mk vi vl)) : wp X (d + 1) k_S_count 0 0 107 [some (.ref 0), some (.int x1)] [.int y0] (mk vi vl) post :=
  wr_ret (r := some (.int y0)) (Or.inr (Or.inl ⟨_, rfl, (by decide +kernel), (Or.inl rfl)⟩)) k1
theorem b_S_count_108 {X : aX} {d : Nat} {post : aO} {vi : Nat → Nat → Int32} {vl : Nat → Nat → Int64} {x1 : Int32} (k1 : CallOk X d 0 0 k_S_thatAreThere [.ref 1] (mk vi vl) (fun r N' => wp X (d + 1) k_S_count 0 0 115 [some (.ref 0), some (.int x1)] (pR r []) N' post)) : wp X (d + 1) k_S_count 0 0 108 [some (.ref 0), some (.int x1)] [] (mk vi vl) post :=
  wr_aload_n (q := 0) (by decide +kernel) rfl rfl <|
  wr_getR2 (b := 1) (ci := 3) (k0 := 0) (idx := 11) lq_0 sq_0 (by decide) (by decide) lf_S_11 rfl vq_0_0 lq_1 (by decide +kernel) <|
  wr_invS (mid2 := 109) (idx := 257) (b1 := 0) (b2 := 0) (c1 := 0) (c2 := 0) (as := [.ref 1]) (st := []) pl_109 rfl (Nat.le_of_ble_eq_true rfl) rfl rfl lm_S_257 it_109 (by decide +kernel) k1
theorem b_S_count_115 {X : aX} {d : Nat} {post : aO} {vi : Nat → Nat → Int32} {vl : Nat → Nat → Int64} {x1 y0 : Int32} (k1 : post (some (.int y0)) (mk vi vl)) : wp X (d + 1) k_S_count 0 0 115 [some (.ref 0), some (.int x1)] [.int y0] (mk vi vl) post :=
  wr_ret (r := some (.int y0)) (Or.inr (Or.inl ⟨_, rfl, (by decide +kernel), (Or.inl rfl)⟩)) k1
theorem b_S_count_116 {X : aX} {d : Nat} {post : aO} {vi : Nat → Nat → Int32} {vl : Nat → Nat → Int64} {x1 : Int32} (k1 : CallOk X d 0 0 k_S_thatAreThere [.ref 2] (mk vi vl) (fun r N' => wp X (d + 1) k_S_count 0 0 123 [some (.ref 0), some (.int x1)] (pR r []) N' post)) : wp X (d + 1) k_S_count 0 0 116 [some (.ref 0), some (.int x1)] [] (mk vi vl) post :=
  wr_aload_n (q := 0) (by decide +kernel) rfl rfl <|
  wr_getR2 (b := 2) (ci := 3) (k0 := 1) (idx := 15) lq_0 sq_0 (by decide) (by decide) lf_S_15 rfl vq_0_1 lq_2 (by decide +kernel) <|
  wr_invS (mid2 := 109) (idx := 257) (b1 := 0) (b2 := 0) (c1 := 0) (c2 := 0) (as := [.ref 2]) (st := []) pl_109 rfl (Nat.le_of_ble_eq_true rfl) rfl rfl lm_S_257 it_109 (by decide +kernel) k1
theorem b_S_count_123 {X : aX} {d : Nat} {post : aO} {vi : Nat → Nat → Int32} {vl : Nat → Nat → Int64} {x1 y0 : Int32} (k1 : post (some (.int y0)) (mk vi vl)) : wp X (d + 1) k_S_count 0 0 123 [some (.ref 0), some (.int x1)] [.int y0] (mk vi vl) post :=
  wr_ret (r := some (.int y0)) (Or.inr (Or.inl ⟨_, rfl, (by decide +kernel), (Or.inl rfl)⟩)) k1
theorem b_S_count_124 {X : aX} {d : Nat} {post : aO} {vi : Nat → Nat → Int32} {vl : Nat → Nat → Int64} {x1 : Int32} (k1 : CallOk X d 0 0 k_S_keptCloths [.ref 0] (mk vi vl) (fun r N' => wp X (d + 1) k_S_count 0 0 128 [some (.ref 0), some (.int x1)] (pR r []) N' post)) : wp X (d + 1) k_S_count 0 0 124 [some (.ref 0), some (.int x1)] [] (mk vi vl) post :=
  wr_aload_n (q := 0) (by decide +kernel) rfl rfl <|
  wr_invV (a := 0) (ci := 3) (mid2 := 110) (idx := 261) (b1 := 0) (b2 := 0) (c1 := 0) (c2 := 0) (as := []) (st := []) pl_110 rfl (Nat.le_of_ble_eq_true rfl) rfl rfl lq_0 sq_0 (by decide) rfl lm_S_261 im_110 is_110 (by decide +kernel) k1
theorem b_S_count_128 {X : aX} {d : Nat} {post : aO} {vi : Nat → Nat → Int32} {vl : Nat → Nat → Int64} {x1 y0 : Int32} (k1 : post (some (.int y0)) (mk vi vl)) : wp X (d + 1) k_S_count 0 0 128 [some (.ref 0), some (.int x1)] [.int y0] (mk vi vl) post :=
  wr_ret (r := some (.int y0)) (Or.inr (Or.inl ⟨_, rfl, (by decide +kernel), (Or.inl rfl)⟩)) k1
theorem b_S_count_129 {X : aX} {d : Nat} {post : aO} {vi : Nat → Nat → Int32} {vl : Nat → Nat → Int64} {x1 : Int32} (k1 : post (some (.int (-1 : Int32))) (mk vi vl)) : wp X (d + 1) k_S_count 0 0 129 [some (.ref 0), some (.int x1)] [] (mk vi vl) post :=
  wr_iconst (n := -1) (v := (-1 : Int32)) (by decide +kernel) (by decide) <|
  wr_ret (r := some (.int (-1 : Int32))) (Or.inr (Or.inl ⟨_, rfl, (by decide +kernel), (Or.inl rfl)⟩)) k1
theorem b_S_thatAreThere_0 {X : aX} {d : Nat} {post : aO} {vi : Nat → Nat → Int32} {vl : Nat → Nat → Int64} {v0 : Nat} (k1 : wp X (d + 1) k_S_thatAreThere 0 0 4 [some (.ref v0), some (.int (0 : Int32)), some (.int (0 : Int32))] [] (mk vi vl) post) : wp X (d + 1) k_S_thatAreThere 0 0 0 [some (.ref v0), none, none] [] (mk vi vl) post :=
  wr_iconst (n := 0) (v := (0 : Int32)) (by decide +kernel) (by decide) <|
  wr_istore_n (q := 1) (by decide +kernel) rfl (by decide) <|
  wr_iconst (n := 0) (v := (0 : Int32)) (by decide +kernel) (by decide) <|
  wr_istore_n (q := 2) (by decide +kernel) rfl (by decide) <|
  k1
theorem b_S_thatAreThere_4 {X : aX} {d : Nat} {post : aO} {vi : Nat → Nat → Int32} {vl : Nat → Nat → Int64} {v0 : Nat} {x1 x2 : Int32} (hv0 : isRA v0) (k1 : (Int32.ofNat (rn v0)) ≤ x2 → wp X (d + 1) k_S_thatAreThere 0 0 33 [some (.ref v0), some (.int x1), some (.int x2)] [] (mk vi vl) post) (k2 : ¬ (Int32.ofNat (rn v0)) ≤ x2 → wp X (d + 1) k_S_thatAreThere 0 0 10 [some (.ref v0), some (.int x1), some (.int x2)] [] (mk vi vl) post) : wp X (d + 1) k_S_thatAreThere 0 0 4 [some (.ref v0), some (.int x1), some (.int x2)] [] (mk vi vl) post :=
  wr_iload_n (q := 2) (by decide +kernel) rfl rfl <|
  wr_aload_n (q := 0) (by decide +kernel) rfl rfl <|
  wr_alenR (ra_lt hv0) (ra_s hv0) (Or.inl rfl) (by decide +kernel) <|
  wr_icmp_ge (off := 26) (t := 33) (by decide +kernel) (by decide) k1 k2
theorem b_S_thatAreThere_10 {X : aX} {d : Nat} {post : aO} {vi : Nat → Nat → Int32} {vl : Nat → Nat → Int64} {v0 : Nat} {x1 x2 : Int32} (hv0 : isRA v0) (q1 : vp_in x2 (rn v0)) (k1 : CallOk X d 0 0 k_R_isMissing [.ref (re v0 x2.toNatClampNeg)] (mk vi vl) (fun r N' => wp X (d + 1) k_S_thatAreThere 0 0 17 [some (.ref v0), some (.int x1), some (.int x2)] (pR r [.int x1]) N' post)) : wp X (d + 1) k_S_thatAreThere 0 0 10 [some (.ref v0), some (.int x1), some (.int x2)] [] (mk vi vl) post :=
  wr_iload_n (q := 1) (by decide +kernel) rfl rfl <|
  wr_aload_n (q := 0) (by decide +kernel) rfl rfl <|
  wr_iload_n (q := 2) (by decide +kernel) rfl rfl <|
  wr_aald2 (b := re v0 x2.toNatClampNeg) (ra_lt hv0) (ra_s hv0) (Or.inl rfl) q1 (ra_v hv0 (vin_lt q1)) (rw_lt0 (ra_i hv0 (vin_lt q1))) (by decide +kernel) <|
  wr_invV (a := re v0 x2.toNatClampNeg) (ci := 2) (mid2 := 14) (idx := 79) (b1 := 0) (b2 := 0) (c1 := 0) (c2 := 0) (as := []) (st := [.int x1]) pl_14 rfl (Nat.le_of_ble_eq_true rfl) rfl rfl (rw_lt0 (ra_i hv0 (vin_lt q1))) (rw_s0 (ra_i hv0 (vin_lt q1))) (by decide) rfl lm_S_79 im_14 is_14 (by decide +kernel) k1
theorem b_S_thatAreThere_17 {X : aX} {d : Nat} {post : aO} {vi : Nat → Nat → Int32} {vl : Nat → Nat → Int64} {v0 : Nat} {x1 x2 y0 y1 : Int32} (k1 : y1 = 0 → wp X (d + 1) k_S_thatAreThere 0 0 24 [some (.ref v0), some (.int x1), some (.int x2)] [.int y0] (mk vi vl) post) (k2 : ¬ y1 = 0 → wp X (d + 1) k_S_thatAreThere 0 0 20 [some (.ref v0), some (.int x1), some (.int x2)] [.int y0] (mk vi vl) post) : wp X (d + 1) k_S_thatAreThere 0 0 17 [some (.ref v0), some (.int x1), some (.int x2)] [.int y1, .int y0] (mk vi vl) post :=
  wr_if_eq (off := 7) (t := 24) (by decide +kernel) (by decide) k1 k2
theorem b_S_thatAreThere_20 {X : aX} {d : Nat} {post : aO} {vi : Nat → Nat → Int32} {vl : Nat → Nat → Int64} {v0 : Nat} {x1 x2 y0 : Int32} (k1 : wp X (d + 1) k_S_thatAreThere 0 0 25 [some (.ref v0), some (.int x1), some (.int x2)] [.int (0 : Int32), .int y0] (mk vi vl) post) : wp X (d + 1) k_S_thatAreThere 0 0 20 [some (.ref v0), some (.int x1), some (.int x2)] [.int y0] (mk vi vl) post :=
  wr_iconst (n := 0) (v := (0 : Int32)) (by decide +kernel) (by decide) <|
  wr_goto (off := 4) (t := 25) (by decide +kernel) (by decide) k1
theorem b_S_thatAreThere_24 {X : aX} {d : Nat} {post : aO} {vi : Nat → Nat → Int32} {vl : Nat → Nat → Int64} {v0 : Nat} {x1 x2 y0 : Int32} (k1 : wp X (d + 1) k_S_thatAreThere 0 0 25 [some (.ref v0), some (.int x1), some (.int x2)] [.int (1 : Int32), .int y0] (mk vi vl) post) : wp X (d + 1) k_S_thatAreThere 0 0 24 [some (.ref v0), some (.int x1), some (.int x2)] [.int y0] (mk vi vl) post :=
  wr_iconst (n := 1) (v := (1 : Int32)) (by decide +kernel) (by decide) <|
  k1
theorem b_S_thatAreThere_25 {X : aX} {d : Nat} {post : aO} {vi : Nat → Nat → Int32} {vl : Nat → Nat → Int64} {v0 : Nat} {x1 x2 y0 y1 : Int32} (k1 : wp X (d + 1) k_S_thatAreThere 0 0 4 [some (.ref v0), some (.int (y0 + y1)), some (.int (x2 + (1 : Int32)))] [] (mk vi vl) post) : wp X (d + 1) k_S_thatAreThere 0 0 25 [some (.ref v0), some (.int x1), some (.int x2)] [.int y1, .int y0] (mk vi vl) post :=
  wr_iadd (by decide +kernel) <|
  wr_istore_n (q := 1) (by decide +kernel) rfl (by decide) <|
  wr_iinc (i := 2) (n := 1) (v := (1 : Int32)) (by decide +kernel) rfl (by decide) (by decide) <|
  wr_goto (off := -26) (t := 4) (by decide +kernel) (by decide) k1
theorem b_S_thatAreThere_33 {X : aX} {d : Nat} {post : aO} {vi : Nat → Nat → Int32} {vl : Nat → Nat → Int64} {v0 : Nat} {x1 x2 : Int32} (k1 : post (some (.int x1)) (mk vi vl)) : wp X (d + 1) k_S_thatAreThere 0 0 33 [some (.ref v0), some (.int x1), some (.int x2)] [] (mk vi vl) post :=
  wr_iload_n (q := 1) (by decide +kernel) rfl rfl <|
  wr_ret (r := some (.int x1)) (Or.inr (Or.inl ⟨_, rfl, (by decide +kernel), (Or.inl rfl)⟩)) k1
theorem b_S_keptCloths_0 {X : aX} {d : Nat} {post : aO} {vi : Nat → Nat → Int32} {vl : Nat → Nat → Int64}  (k1 : wp X (d + 1) k_S_keptCloths 0 0 4 [some (.ref 0), some (.int (0 : Int32)), some (.int (0 : Int32))] [] (mk vi vl) post) : wp X (d + 1) k_S_keptCloths 0 0 0 [some (.ref 0), none, none] [] (mk vi vl) post :=
  wr_iconst (n := 0) (v := (0 : Int32)) (by decide +kernel) (by decide) <|
  wr_istore_n (q := 1) (by decide +kernel) rfl (by decide) <|
  wr_iconst (n := 0) (v := (0 : Int32)) (by decide +kernel) (by decide) <|
  wr_istore_n (q := 2) (by decide +kernel) rfl (by decide) <|
  k1
theorem b_S_keptCloths_4 {X : aX} {d : Nat} {post : aO} {vi : Nat → Nat → Int32} {vl : Nat → Nat → Int64} {x1 x2 : Int32} (k1 : (3 : Int32) ≤ x2 → wp X (d + 1) k_S_keptCloths 0 0 35 [some (.ref 0), some (.int x1), some (.int x2)] [] (mk vi vl) post) (k2 : ¬ (3 : Int32) ≤ x2 → wp X (d + 1) k_S_keptCloths 0 0 9 [some (.ref 0), some (.int x1), some (.int x2)] [] (mk vi vl) post) : wp X (d + 1) k_S_keptCloths 0 0 4 [some (.ref 0), some (.int x1), some (.int x2)] [] (mk vi vl) post :=
  wr_iload_n (q := 2) (by decide +kernel) rfl rfl <|
  wr_iconst (n := 3) (v := (3 : Int32)) (by decide +kernel) (by decide) <|
  wr_icmp_ge (off := 29) (t := 35) (by decide +kernel) (by decide) k1 k2
theorem b_S_keptCloths_9 {X : aX} {d : Nat} {post : aO} {vi : Nat → Nat → Int32} {vl : Nat → Nat → Int64} {x1 x2 : Int32} (q1 : vp_in x2 3) (k1 : ¬ (vi (62 + 11 * x2.toNatClampNeg) 0) = 0 → wp X (d + 1) k_S_keptCloths 0 0 26 [some (.ref 0), some (.int x1), some (.int x2)] [.int x1] (mk vi vl) post) (k2 : (vi (62 + 11 * x2.toNatClampNeg) 0) = 0 → wp X (d + 1) k_S_keptCloths 0 0 22 [some (.ref 0), some (.int x1), some (.int x2)] [.int x1] (mk vi vl) post) : wp X (d + 1) k_S_keptCloths 0 0 9 [some (.ref 0), some (.int x1), some (.int x2)] [] (mk vi vl) post :=
  wr_iload_n (q := 1) (by decide +kernel) rfl rfl <|
  wr_aload_n (q := 0) (by decide +kernel) rfl rfl <|
  wr_getR2 (b := 25) (ci := 3) (k0 := 4) (idx := 28) lq_0 sq_0 (by decide) (by decide) lf_S_28 rfl vq_0_4 lq_25 (by decide +kernel) <|
  wr_iload_n (q := 2) (by decide +kernel) rfl rfl <|
  wr_aald2 (b := 62 + 11 * x2.toNatClampNeg) lq_25 sq_25 (Or.inr rfl) q1 (kept_v (vin_lt q1)) (cl_lt0 (kept_i (vin_lt q1))) (by decide +kernel) <|
  wr_getI (ci := 0) (k0 := 0) (idx := 118) (cl_lt0 (kept_i (vin_lt q1))) (cl_s0 (kept_i (vin_lt q1))) (by decide) (by decide) lf_S_118 (Or.inl rfl) (by decide +kernel) <|
  wr_if_ne (off := 7) (t := 26) (by decide +kernel) (by decide) k1 k2
theorem b_S_keptCloths_22 {X : aX} {d : Nat} {post : aO} {vi : Nat → Nat → Int32} {vl : Nat → Nat → Int64} {x1 x2 y0 : Int32} (k1 : wp X (d + 1) k_S_keptCloths 0 0 27 [some (.ref 0), some (.int x1), some (.int x2)] [.int (0 : Int32), .int y0] (mk vi vl) post) : wp X (d + 1) k_S_keptCloths 0 0 22 [some (.ref 0), some (.int x1), some (.int x2)] [.int y0] (mk vi vl) post :=
  wr_iconst (n := 0) (v := (0 : Int32)) (by decide +kernel) (by decide) <|
  wr_goto (off := 4) (t := 27) (by decide +kernel) (by decide) k1
theorem b_S_keptCloths_26 {X : aX} {d : Nat} {post : aO} {vi : Nat → Nat → Int32} {vl : Nat → Nat → Int64} {x1 x2 y0 : Int32} (k1 : wp X (d + 1) k_S_keptCloths 0 0 27 [some (.ref 0), some (.int x1), some (.int x2)] [.int (1 : Int32), .int y0] (mk vi vl) post) : wp X (d + 1) k_S_keptCloths 0 0 26 [some (.ref 0), some (.int x1), some (.int x2)] [.int y0] (mk vi vl) post :=
  wr_iconst (n := 1) (v := (1 : Int32)) (by decide +kernel) (by decide) <|
  k1
theorem b_S_keptCloths_27 {X : aX} {d : Nat} {post : aO} {vi : Nat → Nat → Int32} {vl : Nat → Nat → Int64} {x1 x2 y0 y1 : Int32} (k1 : wp X (d + 1) k_S_keptCloths 0 0 4 [some (.ref 0), some (.int (y0 + y1)), some (.int (x2 + (1 : Int32)))] [] (mk vi vl) post) : wp X (d + 1) k_S_keptCloths 0 0 27 [some (.ref 0), some (.int x1), some (.int x2)] [.int y1, .int y0] (mk vi vl) post :=
  wr_iadd (by decide +kernel) <|
  wr_istore_n (q := 1) (by decide +kernel) rfl (by decide) <|
  wr_iinc (i := 2) (n := 1) (v := (1 : Int32)) (by decide +kernel) rfl (by decide) (by decide) <|
  wr_goto (off := -28) (t := 4) (by decide +kernel) (by decide) k1
theorem b_S_keptCloths_35 {X : aX} {d : Nat} {post : aO} {vi : Nat → Nat → Int32} {vl : Nat → Nat → Int64} {x1 x2 : Int32} (k1 : post (some (.int x1)) (mk vi vl)) : wp X (d + 1) k_S_keptCloths 0 0 35 [some (.ref 0), some (.int x1), some (.int x2)] [] (mk vi vl) post :=
  wr_iload_n (q := 1) (by decide +kernel) rfl rfl <|
  wr_ret (r := some (.int x1)) (Or.inr (Or.inl ⟨_, rfl, (by decide +kernel), (Or.inl rfl)⟩)) k1
theorem b_S_finding_0 {X : aX} {d : Nat} {post : aO} {vi : Nat → Nat → Int32} {vl : Nat → Nat → Int64}  (k1 : post (some (.int (vi 0 7))) (mk vi vl)) : wp X (d + 1) k_S_finding 0 0 0 [some (.ref 0)] [] (mk vi vl) post :=
  wr_aload_n (q := 0) (by decide +kernel) rfl rfl <|
  wr_getI (ci := 3) (k0 := 7) (idx := 43) lq_0 sq_0 (by decide) (by decide) lf_S_43 (Or.inl rfl) (by decide +kernel) <|
  wr_ret (r := some (.int (vi 0 7))) (Or.inr (Or.inl ⟨_, rfl, (by decide +kernel), (Or.inl rfl)⟩)) k1
theorem b_S_findings_0 {X : aX} {d : Nat} {post : aO} {vi : Nat → Nat → Int32} {vl : Nat → Nat → Int64} {x1 : Int32} (k1 : x1 < (1 : Int32) → wp X (d + 1) k_S_findings 0 0 10 [some (.ref 0), some (.int x1)] [] (mk vi vl) post) (k2 : ¬ x1 < (1 : Int32) → wp X (d + 1) k_S_findings 0 0 5 [some (.ref 0), some (.int x1)] [] (mk vi vl) post) : wp X (d + 1) k_S_findings 0 0 0 [some (.ref 0), some (.int x1)] [] (mk vi vl) post :=
  wr_iload_n (q := 1) (by decide +kernel) rfl rfl <|
  wr_iconst (n := 1) (v := (1 : Int32)) (by decide +kernel) (by decide) <|
  wr_icmp_lt (off := 8) (t := 10) (by decide +kernel) (by decide) k1 k2
theorem b_S_findings_5 {X : aX} {d : Nat} {post : aO} {vi : Nat → Nat → Int32} {vl : Nat → Nat → Int64} {x1 : Int32} (k1 : x1 ≤ (5 : Int32) → wp X (d + 1) k_S_findings 0 0 12 [some (.ref 0), some (.int x1)] [] (mk vi vl) post) (k2 : ¬ x1 ≤ (5 : Int32) → wp X (d + 1) k_S_findings 0 0 10 [some (.ref 0), some (.int x1)] [] (mk vi vl) post) : wp X (d + 1) k_S_findings 0 0 5 [some (.ref 0), some (.int x1)] [] (mk vi vl) post :=
  wr_iload_n (q := 1) (by decide +kernel) rfl rfl <|
  wr_iconst (n := 5) (v := (5 : Int32)) (by decide +kernel) (by decide) <|
  wr_icmp_le (off := 5) (t := 12) (by decide +kernel) (by decide) k1 k2
theorem b_S_findings_10 {X : aX} {d : Nat} {post : aO} {vi : Nat → Nat → Int32} {vl : Nat → Nat → Int64} {x1 : Int32} (k1 : post (some (.int (-1 : Int32))) (mk vi vl)) : wp X (d + 1) k_S_findings 0 0 10 [some (.ref 0), some (.int x1)] [] (mk vi vl) post :=
  wr_iconst (n := -1) (v := (-1 : Int32)) (by decide +kernel) (by decide) <|
  wr_ret (r := some (.int (-1 : Int32))) (Or.inr (Or.inl ⟨_, rfl, (by decide +kernel), (Or.inl rfl)⟩)) k1
theorem b_S_findings_12 {X : aX} {d : Nat} {post : aO} {vi : Nat → Nat → Int32} {vl : Nat → Nat → Int64} {x1 : Int32} (q1 : vp_in x1 6) (k1 : post (some (.int (vi 41 x1.toNatClampNeg))) (mk vi vl)) : wp X (d + 1) k_S_findings 0 0 12 [some (.ref 0), some (.int x1)] [] (mk vi vl) post :=
  wr_aload_n (q := 0) (by decide +kernel) rfl rfl <|
  wr_getR2 (b := 41) (ci := 3) (k0 := 6) (idx := 39) lq_0 sq_0 (by decide) (by decide) lf_S_39 rfl vq_0_6 lq_41 (by decide +kernel) <|
  wr_iload_n (q := 1) (by decide +kernel) rfl rfl <|
  wr_iald lq_41 sq_41 q1 (by decide +kernel) <|
  wr_ret (r := some (.int (vi 41 x1.toNatClampNeg))) (Or.inr (Or.inl ⟨_, rfl, (by decide +kernel), (Or.inl rfl)⟩)) k1
theorem b_S_digest_0 {X : aX} {d : Nat} {post : aO} {vi : Nat → Nat → Int32} {vl : Nat → Nat → Int64}  (k1 : wp X (d + 1) k_S_digest 0 0 6 [some (.ref 0), some (.long (17 : Int64)), none, some (.int (0 : Int32)), none] [] (mk vi vl) post) : wp X (d + 1) k_S_digest 0 0 0 [some (.ref 0), none, none, none, none] [] (mk vi vl) post :=
  wr_ldc2 (i := 264) (v := (17 : Int64)) (by decide +kernel) lj_S_264 <|
  wr_lstore_n (q := 1) (by decide +kernel) rfl (by decide) <|
  wr_iconst (n := 0) (v := (0 : Int32)) (by decide +kernel) (by decide) <|
  wr_istore_n (q := 3) (by decide +kernel) rfl (by decide) <|
  k1
theorem b_S_digest_6 {X : aX} {d : Nat} {post : aO} {vi : Nat → Nat → Int32} {vl : Nat → Nat → Int64} {x1 : Int64} {x3 : Int32} {o4 : Option Value} (k1 : (9 : Int32) ≤ x3 → wp X (d + 1) k_S_digest 0 0 31 [some (.ref 0), some (.long x1), none, some (.int x3), o4] [] (mk vi vl) post) (k2 : ¬ (9 : Int32) ≤ x3 → wp X (d + 1) k_S_digest 0 0 12 [some (.ref 0), some (.long x1), none, some (.int x3), o4] [] (mk vi vl) post) : wp X (d + 1) k_S_digest 0 0 6 [some (.ref 0), some (.long x1), none, some (.int x3), o4] [] (mk vi vl) post :=
  wr_iload_n (q := 3) (by decide +kernel) rfl rfl <|
  wr_bipush (n := 9) (v := (9 : Int32)) (by decide +kernel) (by decide) <|
  wr_icmp_ge (off := 22) (t := 31) (by decide +kernel) (by decide) k1 k2
theorem b_S_digest_12 {X : aX} {d : Nat} {post : aO} {vi : Nat → Nat → Int32} {vl : Nat → Nat → Int64} {x1 : Int64} {x3 : Int32} {o4 : Option Value} (k1 : CallOk X d 0 0 k_S_count [.ref 0, .int x3] (mk vi vl) (fun r N' => wp X (d + 1) k_S_digest 0 0 22 [some (.ref 0), some (.long x1), none, some (.int x3), o4] (pR r [.long ((31 : Int64) * x1)]) N' post)) : wp X (d + 1) k_S_digest 0 0 12 [some (.ref 0), some (.long x1), none, some (.int x3), o4] [] (mk vi vl) post :=
  wr_ldc2 (i := 266) (v := (31 : Int64)) (by decide +kernel) lj_S_266 <|
  wr_lload_n (q := 1) (by decide +kernel) rfl rfl <|
  wr_lmul (by decide +kernel) <|
  wr_aload_n (q := 0) (by decide +kernel) rfl rfl <|
  wr_iload_n (q := 3) (by decide +kernel) rfl rfl <|
  wr_invV (a := 0) (ci := 3) (mid2 := 107) (idx := 268) (b1 := 0) (b2 := 0) (c1 := 0) (c2 := 0) (as := [.int x3]) (st := [.long ((31 : Int64) * x1)]) pl_107 rfl (Nat.le_of_ble_eq_true rfl) rfl rfl lq_0 sq_0 (by decide) rfl lm_S_268 im_107 is_107 (by decide +kernel) k1
theorem b_S_digest_22 {X : aX} {d : Nat} {post : aO} {vi : Nat → Nat → Int32} {vl : Nat → Nat → Int64} {x1 y0 : Int64} {x3 y1 : Int32} {o4 : Option Value} (k1 : wp X (d + 1) k_S_digest 0 0 6 [some (.ref 0), some (.long (y0 + y1.toInt64)), none, some (.int (x3 + (1 : Int32))), o4] [] (mk vi vl) post) : wp X (d + 1) k_S_digest 0 0 22 [some (.ref 0), some (.long x1), none, some (.int x3), o4] [.int y1, .long y0] (mk vi vl) post :=
  wr_i2l (by decide +kernel) <|
  wr_ladd (by decide +kernel) <|
  wr_lstore_n (q := 1) (by decide +kernel) rfl (by decide) <|
  wr_iinc (i := 3) (n := 1) (v := (1 : Int32)) (by decide +kernel) rfl (by decide) (by decide) <|
  wr_goto (off := -22) (t := 6) (by decide +kernel) (by decide) k1
theorem b_S_digest_31 {X : aX} {d : Nat} {post : aO} {vi : Nat → Nat → Int32} {vl : Nat → Nat → Int64} {x1 : Int64} {x3 : Int32} {o4 : Option Value} (k1 : wp X (d + 1) k_S_digest 0 0 33 [some (.ref 0), some (.long x1), none, some (.int (0 : Int32)), o4] [] (mk vi vl) post) : wp X (d + 1) k_S_digest 0 0 31 [some (.ref 0), some (.long x1), none, some (.int x3), o4] [] (mk vi vl) post :=
  wr_iconst (n := 0) (v := (0 : Int32)) (by decide +kernel) (by decide) <|
  wr_istore_n (q := 3) (by decide +kernel) rfl (by decide) <|
  k1
theorem b_S_digest_33 {X : aX} {d : Nat} {post : aO} {vi : Nat → Nat → Int32} {vl : Nat → Nat → Int64} {x1 : Int64} {x3 : Int32} {o4 : Option Value} (k1 : (vi 3 0) ≤ x3 → wp X (d + 1) k_S_digest 0 0 80 [some (.ref 0), some (.long x1), none, some (.int x3), o4] [] (mk vi vl) post) (k2 : ¬ (vi 3 0) ≤ x3 → wp X (d + 1) k_S_digest 0 0 44 [some (.ref 0), some (.long x1), none, some (.int x3), o4] [] (mk vi vl) post) : wp X (d + 1) k_S_digest 0 0 33 [some (.ref 0), some (.long x1), none, some (.int x3), o4] [] (mk vi vl) post :=
  wr_iload_n (q := 3) (by decide +kernel) rfl rfl <|
  wr_aload_n (q := 0) (by decide +kernel) rfl rfl <|
  wr_getR2 (b := 3) (ci := 3) (k0 := 2) (idx := 21) lq_0 sq_0 (by decide) (by decide) lf_S_21 rfl vq_0_2 lq_3 (by decide +kernel) <|
  wr_getI (ci := 0) (k0 := 0) (idx := 118) lq_3 sq_3 (by decide) (by decide) lf_S_118 (Or.inl rfl) (by decide +kernel) <|
  wr_icmp_ge (off := 39) (t := 80) (by decide +kernel) (by decide) k1 k2
theorem b_S_digest_44 {X : aX} {d : Nat} {post : aO} {vi : Nat → Nat → Int32} {vl : Nat → Nat → Int64} {x1 : Int64} {x3 : Int32} {o4 : Option Value} (k1 : wp X (d + 1) k_S_digest 0 0 47 [some (.ref 0), some (.long x1), none, some (.int x3), some (.int (0 : Int32))] [] (mk vi vl) post) : wp X (d + 1) k_S_digest 0 0 44 [some (.ref 0), some (.long x1), none, some (.int x3), o4] [] (mk vi vl) post :=
  wr_iconst (n := 0) (v := (0 : Int32)) (by decide +kernel) (by decide) <|
  wr_istore (i := 4) (by decide +kernel) (by decide) <|
  k1
theorem b_S_digest_47 {X : aX} {d : Nat} {post : aO} {vi : Nat → Nat → Int32} {vl : Nat → Nat → Int64} {x1 : Int64} {x3 x4 : Int32} (k1 : (2 : Int32) < x4 → wp X (d + 1) k_S_digest 0 0 74 [some (.ref 0), some (.long x1), none, some (.int x3), some (.int x4)] [] (mk vi vl) post) (k2 : ¬ (2 : Int32) < x4 → wp X (d + 1) k_S_digest 0 0 53 [some (.ref 0), some (.long x1), none, some (.int x3), some (.int x4)] [] (mk vi vl) post) : wp X (d + 1) k_S_digest 0 0 47 [some (.ref 0), some (.long x1), none, some (.int x3), some (.int x4)] [] (mk vi vl) post :=
  wr_iload (i := 4) (by decide +kernel) rfl <|
  wr_iconst (n := 2) (v := (2 : Int32)) (by decide +kernel) (by decide) <|
  wr_icmp_gt (off := 24) (t := 74) (by decide +kernel) (by decide) k1 k2
theorem b_S_digest_53 {X : aX} {d : Nat} {post : aO} {vi : Nat → Nat → Int32} {vl : Nat → Nat → Int64} {x1 : Int64} {x3 x4 : Int32} (k1 : CallOk X d 0 0 k_S_ofYear [.ref 0, .int x3, .int x4] (mk vi vl) (fun r N' => wp X (d + 1) k_S_digest 0 0 65 [some (.ref 0), some (.long x1), none, some (.int x3), some (.int x4)] (pR r [.long ((31 : Int64) * x1)]) N' post)) : wp X (d + 1) k_S_digest 0 0 53 [some (.ref 0), some (.long x1), none, some (.int x3), some (.int x4)] [] (mk vi vl) post :=
  wr_ldc2 (i := 266) (v := (31 : Int64)) (by decide +kernel) lj_S_266 <|
  wr_lload_n (q := 1) (by decide +kernel) rfl rfl <|
  wr_lmul (by decide +kernel) <|
  wr_aload_n (q := 0) (by decide +kernel) rfl rfl <|
  wr_iload_n (q := 3) (by decide +kernel) rfl rfl <|
  wr_iload (i := 4) (by decide +kernel) rfl <|
  wr_invV (a := 0) (ci := 3) (mid2 := 46) (idx := 124) (b1 := 0) (b2 := 0) (c1 := 0) (c2 := 0) (as := [.int x3, .int x4]) (st := [.long ((31 : Int64) * x1)]) pl_46 rfl (Nat.le_of_ble_eq_true rfl) rfl rfl lq_0 sq_0 (by decide) rfl lm_S_124 im_46 is_46 (by decide +kernel) k1
theorem b_S_digest_65 {X : aX} {d : Nat} {post : aO} {vi : Nat → Nat → Int32} {vl : Nat → Nat → Int64} {x1 y0 : Int64} {x3 x4 y1 : Int32} (k1 : wp X (d + 1) k_S_digest 0 0 47 [some (.ref 0), some (.long (y0 + y1.toInt64)), none, some (.int x3), some (.int (x4 + (1 : Int32)))] [] (mk vi vl) post) : wp X (d + 1) k_S_digest 0 0 65 [some (.ref 0), some (.long x1), none, some (.int x3), some (.int x4)] [.int y1, .long y0] (mk vi vl) post :=
  wr_i2l (by decide +kernel) <|
  wr_ladd (by decide +kernel) <|
  wr_lstore_n (q := 1) (by decide +kernel) rfl (by decide) <|
  wr_iinc (i := 4) (n := 1) (v := (1 : Int32)) (by decide +kernel) rfl (by decide) (by decide) <|
  wr_goto (off := -24) (t := 47) (by decide +kernel) (by decide) k1
theorem b_S_digest_74 {X : aX} {d : Nat} {post : aO} {vi : Nat → Nat → Int32} {vl : Nat → Nat → Int64} {x1 : Int64} {x3 x4 : Int32} (k1 : wp X (d + 1) k_S_digest 0 0 33 [some (.ref 0), some (.long x1), none, some (.int (x3 + (1 : Int32))), some (.int x4)] [] (mk vi vl) post) : wp X (d + 1) k_S_digest 0 0 74 [some (.ref 0), some (.long x1), none, some (.int x3), some (.int x4)] [] (mk vi vl) post :=
  wr_iinc (i := 3) (n := 1) (v := (1 : Int32)) (by decide +kernel) rfl (by decide) (by decide) <|
  wr_goto (off := -44) (t := 33) (by decide +kernel) (by decide) k1
theorem b_S_digest_80 {X : aX} {d : Nat} {post : aO} {vi : Nat → Nat → Int32} {vl : Nat → Nat → Int64} {x1 : Int64} {x3 : Int32} {o4 : Option Value} (k1 : wp X (d + 1) k_S_digest 0 0 82 [some (.ref 0), some (.long x1), none, some (.int (0 : Int32)), o4] [] (mk vi vl) post) : wp X (d + 1) k_S_digest 0 0 80 [some (.ref 0), some (.long x1), none, some (.int x3), o4] [] (mk vi vl) post :=
  wr_iconst (n := 0) (v := (0 : Int32)) (by decide +kernel) (by decide) <|
  wr_istore_n (q := 3) (by decide +kernel) rfl (by decide) <|
  k1
theorem b_S_digest_82 {X : aX} {d : Nat} {post : aO} {vi : Nat → Nat → Int32} {vl : Nat → Nat → Int64} {x1 : Int64} {x3 : Int32} {o4 : Option Value} (k1 : (vi 3 3) ≤ x3 → wp X (d + 1) k_S_digest 0 0 129 [some (.ref 0), some (.long x1), none, some (.int x3), o4] [] (mk vi vl) post) (k2 : ¬ (vi 3 3) ≤ x3 → wp X (d + 1) k_S_digest 0 0 93 [some (.ref 0), some (.long x1), none, some (.int x3), o4] [] (mk vi vl) post) : wp X (d + 1) k_S_digest 0 0 82 [some (.ref 0), some (.long x1), none, some (.int x3), o4] [] (mk vi vl) post :=
  wr_iload_n (q := 3) (by decide +kernel) rfl rfl <|
  wr_aload_n (q := 0) (by decide +kernel) rfl rfl <|
  wr_getR2 (b := 3) (ci := 3) (k0 := 2) (idx := 21) lq_0 sq_0 (by decide) (by decide) lf_S_21 rfl vq_0_2 lq_3 (by decide +kernel) <|
  wr_getI (ci := 0) (k0 := 3) (idx := 225) lq_3 sq_3 (by decide) (by decide) lf_S_225 (Or.inl rfl) (by decide +kernel) <|
  wr_icmp_ge (off := 39) (t := 129) (by decide +kernel) (by decide) k1 k2
theorem b_S_digest_93 {X : aX} {d : Nat} {post : aO} {vi : Nat → Nat → Int32} {vl : Nat → Nat → Int64} {x1 : Int64} {x3 : Int32} {o4 : Option Value} (k1 : wp X (d + 1) k_S_digest 0 0 96 [some (.ref 0), some (.long x1), none, some (.int x3), some (.int (0 : Int32))] [] (mk vi vl) post) : wp X (d + 1) k_S_digest 0 0 93 [some (.ref 0), some (.long x1), none, some (.int x3), o4] [] (mk vi vl) post :=
  wr_iconst (n := 0) (v := (0 : Int32)) (by decide +kernel) (by decide) <|
  wr_istore (i := 4) (by decide +kernel) (by decide) <|
  k1
theorem b_S_digest_96 {X : aX} {d : Nat} {post : aO} {vi : Nat → Nat → Int32} {vl : Nat → Nat → Int64} {x1 : Int64} {x3 x4 : Int32} (k1 : (3 : Int32) < x4 → wp X (d + 1) k_S_digest 0 0 123 [some (.ref 0), some (.long x1), none, some (.int x3), some (.int x4)] [] (mk vi vl) post) (k2 : ¬ (3 : Int32) < x4 → wp X (d + 1) k_S_digest 0 0 102 [some (.ref 0), some (.long x1), none, some (.int x3), some (.int x4)] [] (mk vi vl) post) : wp X (d + 1) k_S_digest 0 0 96 [some (.ref 0), some (.long x1), none, some (.int x3), some (.int x4)] [] (mk vi vl) post :=
  wr_iload (i := 4) (by decide +kernel) rfl <|
  wr_iconst (n := 3) (v := (3 : Int32)) (by decide +kernel) (by decide) <|
  wr_icmp_gt (off := 24) (t := 123) (by decide +kernel) (by decide) k1 k2
theorem b_S_digest_102 {X : aX} {d : Nat} {post : aO} {vi : Nat → Nat → Int32} {vl : Nat → Nat → Int64} {x1 : Int64} {x3 x4 : Int32} (k1 : CallOk X d 0 0 k_S_ofLaw [.ref 0, .int x3, .int x4] (mk vi vl) (fun r N' => wp X (d + 1) k_S_digest 0 0 114 [some (.ref 0), some (.long x1), none, some (.int x3), some (.int x4)] (pR r [.long ((31 : Int64) * x1)]) N' post)) : wp X (d + 1) k_S_digest 0 0 102 [some (.ref 0), some (.long x1), none, some (.int x3), some (.int x4)] [] (mk vi vl) post :=
  wr_ldc2 (i := 266) (v := (31 : Int64)) (by decide +kernel) lj_S_266 <|
  wr_lload_n (q := 1) (by decide +kernel) rfl rfl <|
  wr_lmul (by decide +kernel) <|
  wr_aload_n (q := 0) (by decide +kernel) rfl rfl <|
  wr_iload_n (q := 3) (by decide +kernel) rfl rfl <|
  wr_iload (i := 4) (by decide +kernel) rfl <|
  wr_invV (a := 0) (ci := 3) (mid2 := 49) (idx := 131) (b1 := 0) (b2 := 0) (c1 := 0) (c2 := 0) (as := [.int x3, .int x4]) (st := [.long ((31 : Int64) * x1)]) pl_49 rfl (Nat.le_of_ble_eq_true rfl) rfl rfl lq_0 sq_0 (by decide) rfl lm_S_131 im_49 is_49 (by decide +kernel) k1
theorem b_S_digest_114 {X : aX} {d : Nat} {post : aO} {vi : Nat → Nat → Int32} {vl : Nat → Nat → Int64} {x1 y0 : Int64} {x3 x4 y1 : Int32} (k1 : wp X (d + 1) k_S_digest 0 0 96 [some (.ref 0), some (.long (y0 + y1.toInt64)), none, some (.int x3), some (.int (x4 + (1 : Int32)))] [] (mk vi vl) post) : wp X (d + 1) k_S_digest 0 0 114 [some (.ref 0), some (.long x1), none, some (.int x3), some (.int x4)] [.int y1, .long y0] (mk vi vl) post :=
  wr_i2l (by decide +kernel) <|
  wr_ladd (by decide +kernel) <|
  wr_lstore_n (q := 1) (by decide +kernel) rfl (by decide) <|
  wr_iinc (i := 4) (n := 1) (v := (1 : Int32)) (by decide +kernel) rfl (by decide) (by decide) <|
  wr_goto (off := -24) (t := 96) (by decide +kernel) (by decide) k1
theorem b_S_digest_123 {X : aX} {d : Nat} {post : aO} {vi : Nat → Nat → Int32} {vl : Nat → Nat → Int64} {x1 : Int64} {x3 x4 : Int32} (k1 : wp X (d + 1) k_S_digest 0 0 82 [some (.ref 0), some (.long x1), none, some (.int (x3 + (1 : Int32))), some (.int x4)] [] (mk vi vl) post) : wp X (d + 1) k_S_digest 0 0 123 [some (.ref 0), some (.long x1), none, some (.int x3), some (.int x4)] [] (mk vi vl) post :=
  wr_iinc (i := 3) (n := 1) (v := (1 : Int32)) (by decide +kernel) rfl (by decide) (by decide) <|
  wr_goto (off := -44) (t := 82) (by decide +kernel) (by decide) k1
theorem b_S_digest_129 {X : aX} {d : Nat} {post : aO} {vi : Nat → Nat → Int32} {vl : Nat → Nat → Int64} {x1 : Int64} {x3 : Int32} {o4 : Option Value} (k1 : wp X (d + 1) k_S_digest 0 0 131 [some (.ref 0), some (.long x1), none, some (.int (0 : Int32)), o4] [] (mk vi vl) post) : wp X (d + 1) k_S_digest 0 0 129 [some (.ref 0), some (.long x1), none, some (.int x3), o4] [] (mk vi vl) post :=
  wr_iconst (n := 0) (v := (0 : Int32)) (by decide +kernel) (by decide) <|
  wr_istore_n (q := 3) (by decide +kernel) rfl (by decide) <|
  k1
theorem b_S_digest_131 {X : aX} {d : Nat} {post : aO} {vi : Nat → Nat → Int32} {vl : Nat → Nat → Int64} {x1 : Int64} {x3 : Int32} {o4 : Option Value} (k1 : (3 : Int32) ≤ x3 → wp X (d + 1) k_S_digest 0 0 175 [some (.ref 0), some (.long x1), none, some (.int x3), o4] [] (mk vi vl) post) (k2 : ¬ (3 : Int32) ≤ x3 → wp X (d + 1) k_S_digest 0 0 136 [some (.ref 0), some (.long x1), none, some (.int x3), o4] [] (mk vi vl) post) : wp X (d + 1) k_S_digest 0 0 131 [some (.ref 0), some (.long x1), none, some (.int x3), o4] [] (mk vi vl) post :=
  wr_iload_n (q := 3) (by decide +kernel) rfl rfl <|
  wr_iconst (n := 3) (v := (3 : Int32)) (by decide +kernel) (by decide) <|
  wr_icmp_ge (off := 42) (t := 175) (by decide +kernel) (by decide) k1 k2
theorem b_S_digest_136 {X : aX} {d : Nat} {post : aO} {vi : Nat → Nat → Int32} {vl : Nat → Nat → Int64} {x1 : Int64} {x3 : Int32} {o4 : Option Value} (q1 : vp_in x3 3) (k1 : ¬ (vi (62 + 11 * x3.toNatClampNeg) 0) = 0 → wp X (d + 1) k_S_digest 0 0 157 [some (.ref 0), some (.long x1), none, some (.int x3), o4] [.long ((31 : Int64) * x1)] (mk vi vl) post) (k2 : (vi (62 + 11 * x3.toNatClampNeg) 0) = 0 → wp X (d + 1) k_S_digest 0 0 153 [some (.ref 0), some (.long x1), none, some (.int x3), o4] [.long ((31 : Int64) * x1)] (mk vi vl) post) : wp X (d + 1) k_S_digest 0 0 136 [some (.ref 0), some (.long x1), none, some (.int x3), o4] [] (mk vi vl) post :=
  wr_ldc2 (i := 266) (v := (31 : Int64)) (by decide +kernel) lj_S_266 <|
  wr_lload_n (q := 1) (by decide +kernel) rfl rfl <|
  wr_lmul (by decide +kernel) <|
  wr_aload_n (q := 0) (by decide +kernel) rfl rfl <|
  wr_getR2 (b := 25) (ci := 3) (k0 := 4) (idx := 28) lq_0 sq_0 (by decide) (by decide) lf_S_28 rfl vq_0_4 lq_25 (by decide +kernel) <|
  wr_iload_n (q := 3) (by decide +kernel) rfl rfl <|
  wr_aald2 (b := 62 + 11 * x3.toNatClampNeg) lq_25 sq_25 (Or.inr rfl) q1 (kept_v (vin_lt q1)) (cl_lt0 (kept_i (vin_lt q1))) (by decide +kernel) <|
  wr_getI (ci := 0) (k0 := 0) (idx := 118) (cl_lt0 (kept_i (vin_lt q1))) (cl_s0 (kept_i (vin_lt q1))) (by decide) (by decide) lf_S_118 (Or.inl rfl) (by decide +kernel) <|
  wr_if_ne (off := 7) (t := 157) (by decide +kernel) (by decide) k1 k2
theorem b_S_digest_153 {X : aX} {d : Nat} {post : aO} {vi : Nat → Nat → Int32} {vl : Nat → Nat → Int64} {x1 y0 : Int64} {x3 : Int32} {o4 : Option Value} (k1 : wp X (d + 1) k_S_digest 0 0 166 [some (.ref 0), some (.long x1), none, some (.int x3), o4] [.int (-1 : Int32), .long y0] (mk vi vl) post) : wp X (d + 1) k_S_digest 0 0 153 [some (.ref 0), some (.long x1), none, some (.int x3), o4] [.long y0] (mk vi vl) post :=
  wr_iconst (n := -1) (v := (-1 : Int32)) (by decide +kernel) (by decide) <|
  wr_goto (off := 12) (t := 166) (by decide +kernel) (by decide) k1
theorem b_S_digest_157 {X : aX} {d : Nat} {post : aO} {vi : Nat → Nat → Int32} {vl : Nat → Nat → Int64} {x1 y0 : Int64} {x3 : Int32} {o4 : Option Value} (q1 : vp_in x3 3) (k1 : wp X (d + 1) k_S_digest 0 0 166 [some (.ref 0), some (.long x1), none, some (.int x3), o4] [.int (vi (62 + 11 * x3.toNatClampNeg) 7), .long y0] (mk vi vl) post) : wp X (d + 1) k_S_digest 0 0 157 [some (.ref 0), some (.long x1), none, some (.int x3), o4] [.long y0] (mk vi vl) post :=
  wr_aload_n (q := 0) (by decide +kernel) rfl rfl <|
  wr_getR2 (b := 25) (ci := 3) (k0 := 4) (idx := 28) lq_0 sq_0 (by decide) (by decide) lf_S_28 rfl vq_0_4 lq_25 (by decide +kernel) <|
  wr_iload_n (q := 3) (by decide +kernel) rfl rfl <|
  wr_aald2 (b := 62 + 11 * x3.toNatClampNeg) lq_25 sq_25 (Or.inr rfl) q1 (kept_v (vin_lt q1)) (cl_lt0 (kept_i (vin_lt q1))) (by decide +kernel) <|
  wr_getI (ci := 0) (k0 := 7) (idx := 157) (cl_lt0 (kept_i (vin_lt q1))) (cl_s0 (kept_i (vin_lt q1))) (by decide) (by decide) lf_S_157 (Or.inl rfl) (by decide +kernel) <|
  k1
theorem b_S_digest_166 {X : aX} {d : Nat} {post : aO} {vi : Nat → Nat → Int32} {vl : Nat → Nat → Int64} {x1 y0 : Int64} {x3 y1 : Int32} {o4 : Option Value} (k1 : wp X (d + 1) k_S_digest 0 0 131 [some (.ref 0), some (.long (y0 + y1.toInt64)), none, some (.int (x3 + (1 : Int32))), o4] [] (mk vi vl) post) : wp X (d + 1) k_S_digest 0 0 166 [some (.ref 0), some (.long x1), none, some (.int x3), o4] [.int y1, .long y0] (mk vi vl) post :=
  wr_i2l (by decide +kernel) <|
  wr_ladd (by decide +kernel) <|
  wr_lstore_n (q := 1) (by decide +kernel) rfl (by decide) <|
  wr_iinc (i := 3) (n := 1) (v := (1 : Int32)) (by decide +kernel) rfl (by decide) (by decide) <|
  wr_goto (off := -41) (t := 131) (by decide +kernel) (by decide) k1
theorem b_S_digest_175 {X : aX} {d : Nat} {post : aO} {vi : Nat → Nat → Int32} {vl : Nat → Nat → Int64} {x1 : Int64} {x3 : Int32} {o4 : Option Value} (k1 : CallOk X d 0 0 k_S_foldRows [.long x1, .ref 1] (mk vi vl) (fun r N' => wp X (d + 1) k_S_digest 0 0 183 [some (.ref 0), some (.long x1), none, some (.int x3), o4] (pR r []) N' post)) : wp X (d + 1) k_S_digest 0 0 175 [some (.ref 0), some (.long x1), none, some (.int x3), o4] [] (mk vi vl) post :=
  wr_lload_n (q := 1) (by decide +kernel) rfl rfl <|
  wr_aload_n (q := 0) (by decide +kernel) rfl rfl <|
  wr_getR2 (b := 1) (ci := 3) (k0 := 0) (idx := 11) lq_0 sq_0 (by decide) (by decide) lf_S_11 rfl vq_0_0 lq_1 (by decide +kernel) <|
  wr_invS (mid2 := 114) (idx := 271) (b1 := 0) (b2 := 0) (c1 := 0) (c2 := 0) (as := [.long x1, .ref 1]) (st := []) pl_114 rfl (Nat.le_of_ble_eq_true rfl) rfl rfl lm_S_271 it_114 (by decide +kernel) k1
theorem b_S_digest_183 {X : aX} {d : Nat} {post : aO} {vi : Nat → Nat → Int32} {vl : Nat → Nat → Int64} {x1 y0 : Int64} {x3 : Int32} {o4 : Option Value} (k1 : CallOk X d 0 0 k_S_foldRows [.long y0, .ref 2] (mk vi vl) (fun r N' => wp X (d + 1) k_S_digest 0 0 190 [some (.ref 0), some (.long x1), none, some (.int x3), o4] (pR r []) N' post)) : wp X (d + 1) k_S_digest 0 0 183 [some (.ref 0), some (.long x1), none, some (.int x3), o4] [.long y0] (mk vi vl) post :=
  wr_aload_n (q := 0) (by decide +kernel) rfl rfl <|
  wr_getR2 (b := 2) (ci := 3) (k0 := 1) (idx := 15) lq_0 sq_0 (by decide) (by decide) lf_S_15 rfl vq_0_1 lq_2 (by decide +kernel) <|
  wr_invS (mid2 := 114) (idx := 271) (b1 := 0) (b2 := 0) (c1 := 0) (c2 := 0) (as := [.long y0, .ref 2]) (st := []) pl_114 rfl (Nat.le_of_ble_eq_true rfl) rfl rfl lm_S_271 it_114 (by decide +kernel) k1
theorem b_S_digest_190 {X : aX} {d : Nat} {post : aO} {vi : Nat → Nat → Int32} {vl : Nat → Nat → Int64} {x1 y0 : Int64} {x3 : Int32} {o4 : Option Value} (k1 : post (some (.long y0)) (mk vi vl)) : wp X (d + 1) k_S_digest 0 0 190 [some (.ref 0), some (.long x1), none, some (.int x3), o4] [.long y0] (mk vi vl) post :=
  wr_ret (r := some (.long y0)) (Or.inr (Or.inr ⟨_, rfl, (by decide +kernel), rfl⟩)) k1
theorem b_S_foldRows_0 {X : aX} {d : Nat} {post : aO} {vi : Nat → Nat → Int32} {vl : Nat → Nat → Int64} {x0 : Int64} {v2 : Nat} (k1 : wp X (d + 1) k_S_foldRows 0 0 2 [some (.long x0), none, some (.ref v2), some (.int (0 : Int32)), none, none] [] (mk vi vl) post) : wp X (d + 1) k_S_foldRows 0 0 0 [some (.long x0), none, some (.ref v2), none, none, none] [] (mk vi vl) post :=
  wr_iconst (n := 0) (v := (0 : Int32)) (by decide +kernel) (by decide) <|
  wr_istore_n (q := 3) (by decide +kernel) rfl (by decide) <|
  k1
theorem b_S_foldRows_2 {X : aX} {d : Nat} {post : aO} {vi : Nat → Nat → Int32} {vl : Nat → Nat → Int64} {x0 : Int64} {v2 : Nat} {x3 : Int32} {o4 o5 : Option Value} (hv2 : isRA v2) (k1 : (Int32.ofNat (rn v2)) ≤ x3 → wp X (d + 1) k_S_foldRows 0 0 67 [some (.long x0), none, some (.ref v2), some (.int x3), o4, o5] [] (mk vi vl) post) (k2 : ¬ (Int32.ofNat (rn v2)) ≤ x3 → wp X (d + 1) k_S_foldRows 0 0 8 [some (.long x0), none, some (.ref v2), some (.int x3), o4, o5] [] (mk vi vl) post) : wp X (d + 1) k_S_foldRows 0 0 2 [some (.long x0), none, some (.ref v2), some (.int x3), o4, o5] [] (mk vi vl) post :=
  wr_iload_n (q := 3) (by decide +kernel) rfl rfl <|
  wr_aload_n (q := 2) (by decide +kernel) rfl rfl <|
  wr_alenR (ra_lt hv2) (ra_s hv2) (Or.inl rfl) (by decide +kernel) <|
  wr_icmp_ge (off := 62) (t := 67) (by decide +kernel) (by decide) k1 k2
theorem b_S_foldRows_8 {X : aX} {d : Nat} {post : aO} {vi : Nat → Nat → Int32} {vl : Nat → Nat → Int64} {x0 : Int64} {v2 : Nat} {x3 : Int32} {o4 o5 : Option Value} (hv2 : isRA v2) (q1 : vp_in x3 (rn v2)) (k1 : wp X (d + 1) k_S_foldRows 0 0 29 [some (.long (((31 : Int64) * x0) + ((vi (re v2 x3.toNatClampNeg) 1).toInt64))), none, some (.ref v2), some (.int x3), some (.ref (re v2 x3.toNatClampNeg)), some (.int (0 : Int32))] [] (mk vi vl) post) : wp X (d + 1) k_S_foldRows 0 0 8 [some (.long x0), none, some (.ref v2), some (.int x3), o4, o5] [] (mk vi vl) post :=
  wr_aload_n (q := 2) (by decide +kernel) rfl rfl <|
  wr_iload_n (q := 3) (by decide +kernel) rfl rfl <|
  wr_aald2 (b := re v2 x3.toNatClampNeg) (ra_lt hv2) (ra_s hv2) (Or.inl rfl) q1 (ra_v hv2 (vin_lt q1)) (rw_lt0 (ra_i hv2 (vin_lt q1))) (by decide +kernel) <|
  wr_astore (i := 4) (by decide +kernel) (by decide) <|
  wr_ldc2 (i := 266) (v := (31 : Int64)) (by decide +kernel) lj_S_266 <|
  wr_lload_n (q := 0) (by decide +kernel) rfl rfl <|
  wr_lmul (by decide +kernel) <|
  wr_aload (i := 4) (by decide +kernel) rfl <|
  wr_getI (ci := 2) (k0 := 1) (idx := 96) (rw_lt0 (ra_i hv2 (vin_lt q1))) (rw_s0 (ra_i hv2 (vin_lt q1))) (by decide) (by decide) lf_S_96 (Or.inl rfl) (by decide +kernel) <|
  wr_i2l (by decide +kernel) <|
  wr_ladd (by decide +kernel) <|
  wr_lstore_n (q := 0) (by decide +kernel) rfl (by decide) <|
  wr_iconst (n := 0) (v := (0 : Int32)) (by decide +kernel) (by decide) <|
  wr_istore (i := 5) (by decide +kernel) (by decide) <|
  k1
theorem b_S_foldRows_29 {X : aX} {d : Nat} {post : aO} {vi : Nat → Nat → Int32} {vl : Nat → Nat → Int64} {x0 : Int64} {v2 x4 : Nat} {x3 x5 : Int32} (hx4 : isRw x4) (k1 : (vi x4 1) ≤ x5 → wp X (d + 1) k_S_foldRows 0 0 61 [some (.long x0), none, some (.ref v2), some (.int x3), some (.ref x4), some (.int x5)] [] (mk vi vl) post) (k2 : ¬ (vi x4 1) ≤ x5 → wp X (d + 1) k_S_foldRows 0 0 39 [some (.long x0), none, some (.ref v2), some (.int x3), some (.ref x4), some (.int x5)] [] (mk vi vl) post) : wp X (d + 1) k_S_foldRows 0 0 29 [some (.long x0), none, some (.ref v2), some (.int x3), some (.ref x4), some (.int x5)] [] (mk vi vl) post :=
  wr_iload (i := 5) (by decide +kernel) rfl <|
  wr_aload (i := 4) (by decide +kernel) rfl <|
  wr_getI (ci := 2) (k0 := 1) (idx := 96) (rw_lt0 hx4) (rw_s0 hx4) (by decide) (by decide) lf_S_96 (Or.inl rfl) (by decide +kernel) <|
  wr_icmp_ge (off := 25) (t := 61) (by decide +kernel) (by decide) k1 k2
theorem b_S_foldRows_39 {X : aX} {d : Nat} {post : aO} {vi : Nat → Nat → Int32} {vl : Nat → Nat → Int64} {x0 : Int64} {v2 x4 : Nat} {x3 x5 : Int32} (hx4 : isRw x4) (q1 : vp_in x5 (rl x4)) (k1 : wp X (d + 1) k_S_foldRows 0 0 29 [some (.long (((31 : Int64) * x0) + ((vi (x4 + 1) x5.toNatClampNeg).toInt64))), none, some (.ref v2), some (.int x3), some (.ref x4), some (.int (x5 + (1 : Int32)))] [] (mk vi vl) post) : wp X (d + 1) k_S_foldRows 0 0 39 [some (.long x0), none, some (.ref v2), some (.int x3), some (.ref x4), some (.int x5)] [] (mk vi vl) post :=
  wr_ldc2 (i := 266) (v := (31 : Int64)) (by decide +kernel) lj_S_266 <|
  wr_lload_n (q := 0) (by decide +kernel) rfl rfl <|
  wr_lmul (by decide +kernel) <|
  wr_aload (i := 4) (by decide +kernel) rfl <|
  wr_getR2 (b := x4 + 1) (ci := 2) (k0 := 0) (idx := 76) (rw_lt0 hx4) (rw_s0 hx4) (by decide) (by decide) lf_S_76 rfl (rw_v0 hx4) (rw_lt1 hx4) (by decide +kernel) <|
  wr_iload (i := 5) (by decide +kernel) rfl <|
  wr_iald (rw_lt1 hx4) (rw_s1 hx4) q1 (by decide +kernel) <|
  wr_i2l (by decide +kernel) <|
  wr_ladd (by decide +kernel) <|
  wr_lstore_n (q := 0) (by decide +kernel) rfl (by decide) <|
  wr_iinc (i := 5) (n := 1) (v := (1 : Int32)) (by decide +kernel) rfl (by decide) (by decide) <|
  wr_goto (off := -29) (t := 29) (by decide +kernel) (by decide) k1
theorem b_S_foldRows_61 {X : aX} {d : Nat} {post : aO} {vi : Nat → Nat → Int32} {vl : Nat → Nat → Int64} {x0 : Int64} {v2 x4 : Nat} {x3 x5 : Int32} (k1 : wp X (d + 1) k_S_foldRows 0 0 2 [some (.long x0), none, some (.ref v2), some (.int (x3 + (1 : Int32))), some (.ref x4), some (.int x5)] [] (mk vi vl) post) : wp X (d + 1) k_S_foldRows 0 0 61 [some (.long x0), none, some (.ref v2), some (.int x3), some (.ref x4), some (.int x5)] [] (mk vi vl) post :=
  wr_iinc (i := 3) (n := 1) (v := (1 : Int32)) (by decide +kernel) rfl (by decide) (by decide) <|
  wr_goto (off := -62) (t := 2) (by decide +kernel) (by decide) k1
theorem b_S_foldRows_67 {X : aX} {d : Nat} {post : aO} {vi : Nat → Nat → Int32} {vl : Nat → Nat → Int64} {x0 : Int64} {v2 : Nat} {x3 : Int32} {o4 o5 : Option Value} (k1 : post (some (.long x0)) (mk vi vl)) : wp X (d + 1) k_S_foldRows 0 0 67 [some (.long x0), none, some (.ref v2), some (.int x3), o4, o5] [] (mk vi vl) post :=
  wr_lload_n (q := 0) (by decide +kernel) rfl rfl <|
  wr_ret (r := some (.long x0)) (Or.inr (Or.inr ⟨_, rfl, (by decide +kernel), rfl⟩)) k1
