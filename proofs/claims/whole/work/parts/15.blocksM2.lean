theorem b_M_yearsThat_0 {X : aX} {d : Nat} {post : aO} {vi : Nat → Nat → Int32} {vl : Nat → Nat → Int64} {x1 : Int32} (k1 : wp X (d + 1) k_M_yearsThat 0 0 4 [some (.ref 95), some (.int x1), some (.int (0 : Int32)), some (.int (0 : Int32))] [] (mk vi vl) post) : wp X (d + 1) k_M_yearsThat 0 0 0 [some (.ref 95), some (.int x1), none, none] [] (mk vi vl) post :=
  wr_iconst (n := 0) (v := (0 : Int32)) (by decide +kernel) (by decide) <|
  wr_istore_n (q := 2) (by decide +kernel) rfl (by decide) <|
  wr_iconst (n := 0) (v := (0 : Int32)) (by decide +kernel) (by decide) <|
  wr_istore_n (q := 3) (by decide +kernel) rfl (by decide) <|
  k1
theorem b_M_yearsThat_4 {X : aX} {d : Nat} {post : aO} {vi : Nat → Nat → Int32} {vl : Nat → Nat → Int64} {x1 x2 x3 : Int32} (k1 : (vi 96 0) ≤ x3 → wp X (d + 1) k_M_yearsThat 0 0 42 [some (.ref 95), some (.int x1), some (.int x2), some (.int x3)] [] (mk vi vl) post) (k2 : ¬ (vi 96 0) ≤ x3 → wp X (d + 1) k_M_yearsThat 0 0 14 [some (.ref 95), some (.int x1), some (.int x2), some (.int x3)] [] (mk vi vl) post) : wp X (d + 1) k_M_yearsThat 0 0 4 [some (.ref 95), some (.int x1), some (.int x2), some (.int x3)] [] (mk vi vl) post :=
  wr_iload_n (q := 3) (by decide +kernel) rfl rfl <|
  wr_aload_n (q := 0) (by decide +kernel) rfl rfl <|
  wr_getR2 (b := 96) (ci := 4) (k0 := 0) (idx := 7) lq_95 sq_95 (by decide) (by decide) lf_M_7 rfl vq_95_0 lq_96 (by decide +kernel) <|
  wr_iconst (n := 0) (v := (0 : Int32)) (by decide +kernel) (by decide) <|
  wr_iald lq_96 sq_96 (by unfold vp_in; decide) (by decide +kernel) <|
  wr_icmp_ge (off := 31) (t := 42) (by decide +kernel) (by decide) k1 k2
theorem b_M_yearsThat_14 {X : aX} {d : Nat} {post : aO} {vi : Nat → Nat → Int32} {vl : Nat → Nat → Int64} {x1 x2 x3 : Int32} (q1 : vp_in ((2 : Int32) + x3) 5976) (k1 : ¬ (vi 96 ((2 : Int32) + x3).toNatClampNeg) = x1 → wp X (d + 1) k_M_yearsThat 0 0 33 [some (.ref 95), some (.int x1), some (.int x2), some (.int x3)] [.int x2] (mk vi vl) post) (k2 : (vi 96 ((2 : Int32) + x3).toNatClampNeg) = x1 → wp X (d + 1) k_M_yearsThat 0 0 27 [some (.ref 95), some (.int x1), some (.int x2), some (.int x3)] [.int x2] (mk vi vl) post) : wp X (d + 1) k_M_yearsThat 0 0 14 [some (.ref 95), some (.int x1), some (.int x2), some (.int x3)] [] (mk vi vl) post :=
  wr_iload_n (q := 2) (by decide +kernel) rfl rfl <|
  wr_aload_n (q := 0) (by decide +kernel) rfl rfl <|
  wr_getR2 (b := 96) (ci := 4) (k0 := 0) (idx := 7) lq_95 sq_95 (by decide) (by decide) lf_M_7 rfl vq_95_0 lq_96 (by decide +kernel) <|
  wr_iconst (n := 2) (v := (2 : Int32)) (by decide +kernel) (by decide) <|
  wr_iload_n (q := 3) (by decide +kernel) rfl rfl <|
  wr_iadd (by decide +kernel) <|
  wr_iald lq_96 sq_96 q1 (by decide +kernel) <|
  wr_iload_n (q := 1) (by decide +kernel) rfl rfl <|
  wr_icmp_ne (off := 9) (t := 33) (by decide +kernel) (by decide) k1 k2
theorem b_M_yearsThat_27 {X : aX} {d : Nat} {post : aO} {vi : Nat → Nat → Int32} {vl : Nat → Nat → Int64} {x1 x2 x3 y0 : Int32} (k1 : wp X (d + 1) k_M_yearsThat 0 0 34 [some (.ref 95), some (.int x1), some (.int x2), some (.int x3)] [.int ((1 : Int32) <<< (x3 &&& 31)), .int y0] (mk vi vl) post) : wp X (d + 1) k_M_yearsThat 0 0 27 [some (.ref 95), some (.int x1), some (.int x2), some (.int x3)] [.int y0] (mk vi vl) post :=
  wr_iconst (n := 1) (v := (1 : Int32)) (by decide +kernel) (by decide) <|
  wr_iload_n (q := 3) (by decide +kernel) rfl rfl <|
  wr_ishl (by decide +kernel) <|
  wr_goto (off := 4) (t := 34) (by decide +kernel) (by decide) k1
theorem b_M_yearsThat_33 {X : aX} {d : Nat} {post : aO} {vi : Nat → Nat → Int32} {vl : Nat → Nat → Int64} {x1 x2 x3 y0 : Int32} (k1 : wp X (d + 1) k_M_yearsThat 0 0 34 [some (.ref 95), some (.int x1), some (.int x2), some (.int x3)] [.int (0 : Int32), .int y0] (mk vi vl) post) : wp X (d + 1) k_M_yearsThat 0 0 33 [some (.ref 95), some (.int x1), some (.int x2), some (.int x3)] [.int y0] (mk vi vl) post :=
  wr_iconst (n := 0) (v := (0 : Int32)) (by decide +kernel) (by decide) <|
  k1
theorem b_M_yearsThat_34 {X : aX} {d : Nat} {post : aO} {vi : Nat → Nat → Int32} {vl : Nat → Nat → Int64} {x1 x2 x3 y0 y1 : Int32} (k1 : wp X (d + 1) k_M_yearsThat 0 0 4 [some (.ref 95), some (.int x1), some (.int (y0 ||| y1)), some (.int (x3 + (1 : Int32)))] [] (mk vi vl) post) : wp X (d + 1) k_M_yearsThat 0 0 34 [some (.ref 95), some (.int x1), some (.int x2), some (.int x3)] [.int y1, .int y0] (mk vi vl) post :=
  wr_ior (by decide +kernel) <|
  wr_istore_n (q := 2) (by decide +kernel) rfl (by decide) <|
  wr_iinc (i := 3) (n := 1) (v := (1 : Int32)) (by decide +kernel) rfl (by decide) (by decide) <|
  wr_goto (off := -35) (t := 4) (by decide +kernel) (by decide) k1
theorem b_M_yearsThat_42 {X : aX} {d : Nat} {post : aO} {vi : Nat → Nat → Int32} {vl : Nat → Nat → Int64} {x1 x2 x3 : Int32} (k1 : post (some (.int x2)) (mk vi vl)) : wp X (d + 1) k_M_yearsThat 0 0 42 [some (.ref 95), some (.int x1), some (.int x2), some (.int x3)] [] (mk vi vl) post :=
  wr_iload_n (q := 2) (by decide +kernel) rfl rfl <|
  wr_ret (r := some (.int x2)) (Or.inr (Or.inl ⟨_, rfl, (by decide +kernel), (Or.inl rfl)⟩)) k1
theorem b_M_end_0 {X : aX} {d : Nat} {post : aO} {vi : Nat → Nat → Int32} {vl : Nat → Nat → Int64} {x1 x2 : Int32} (k1 : CallOk X d 0 0 k_M_isLaw [.ref 95, .int x1] (mk vi vl) (fun r N' => wp X (d + 1) k_M_end 0 0 5 [some (.ref 95), some (.int x1), some (.int x2), none] (pR r []) N' post)) : wp X (d + 1) k_M_end 0 0 0 [some (.ref 95), some (.int x1), some (.int x2), none] [] (mk vi vl) post :=
  wr_aload_n (q := 0) (by decide +kernel) rfl rfl <|
  wr_iload_n (q := 1) (by decide +kernel) rfl rfl <|
  wr_invV (a := 95) (ci := 4) (mid2 := 149) (idx := 159) (b1 := 0) (b2 := 0) (c1 := 0) (c2 := 0) (as := [.int x1]) (st := []) pl_149 rfl (Nat.le_of_ble_eq_true rfl) rfl rfl lq_95 sq_95 (by decide) rfl lm_M_159 im_149 is_149 (by decide +kernel) k1
theorem b_M_end_5 {X : aX} {d : Nat} {post : aO} {vi : Nat → Nat → Int32} {vl : Nat → Nat → Int64} {x1 x2 y0 : Int32} {o3 : Option Value} (k1 : y0 = 0 → wp X (d + 1) k_M_end 0 0 15 [some (.ref 95), some (.int x1), some (.int x2), o3] [] (mk vi vl) post) (k2 : ¬ y0 = 0 → wp X (d + 1) k_M_end 0 0 8 [some (.ref 95), some (.int x1), some (.int x2), o3] [] (mk vi vl) post) : wp X (d + 1) k_M_end 0 0 5 [some (.ref 95), some (.int x1), some (.int x2), o3] [.int y0] (mk vi vl) post :=
  wr_if_eq (off := 10) (t := 15) (by decide +kernel) (by decide) k1 k2
theorem b_M_end_8 {X : aX} {d : Nat} {post : aO} {vi : Nat → Nat → Int32} {vl : Nat → Nat → Int64} {x1 x2 : Int32} {o3 : Option Value} (k1 : CallOk X d 0 0 k_M_isTold [.int x2] (mk vi vl) (fun r N' => wp X (d + 1) k_M_end 0 0 12 [some (.ref 95), some (.int x1), some (.int x2), o3] (pR r []) N' post)) : wp X (d + 1) k_M_end 0 0 8 [some (.ref 95), some (.int x1), some (.int x2), o3] [] (mk vi vl) post :=
  wr_iload_n (q := 2) (by decide +kernel) rfl rfl <|
  wr_invS (mid2 := 157) (idx := 168) (b1 := 0) (b2 := 0) (c1 := 0) (c2 := 0) (as := [.int x2]) (st := []) pl_157 rfl (Nat.le_of_ble_eq_true rfl) rfl rfl lm_M_168 it_157 (by decide +kernel) k1
theorem b_M_end_12 {X : aX} {d : Nat} {post : aO} {vi : Nat → Nat → Int32} {vl : Nat → Nat → Int64} {x1 x2 y0 : Int32} {o3 : Option Value} (k1 : ¬ y0 = 0 → wp X (d + 1) k_M_end 0 0 17 [some (.ref 95), some (.int x1), some (.int x2), o3] [] (mk vi vl) post) (k2 : y0 = 0 → wp X (d + 1) k_M_end 0 0 15 [some (.ref 95), some (.int x1), some (.int x2), o3] [] (mk vi vl) post) : wp X (d + 1) k_M_end 0 0 12 [some (.ref 95), some (.int x1), some (.int x2), o3] [.int y0] (mk vi vl) post :=
  wr_if_ne (off := 5) (t := 17) (by decide +kernel) (by decide) k1 k2
theorem b_M_end_15 {X : aX} {d : Nat} {post : aO} {vi : Nat → Nat → Int32} {vl : Nat → Nat → Int64} {x1 x2 : Int32} {o3 : Option Value} (k1 : post (some (.int (-1 : Int32))) (mk vi vl)) : wp X (d + 1) k_M_end 0 0 15 [some (.ref 95), some (.int x1), some (.int x2), o3] [] (mk vi vl) post :=
  wr_iconst (n := -1) (v := (-1 : Int32)) (by decide +kernel) (by decide) <|
  wr_ret (r := some (.int (-1 : Int32))) (Or.inr (Or.inl ⟨_, rfl, (by decide +kernel), (Or.inl rfl)⟩)) k1
theorem b_M_end_17 {X : aX} {d : Nat} {post : aO} {vi : Nat → Nat → Int32} {vl : Nat → Nat → Int64} {x1 x2 : Int32} {o3 : Option Value} (k1 : (vi 95 1) ≤ 0 → wp X (d + 1) k_M_end 0 0 27 [some (.ref 95), some (.int x1), some (.int x2), o3] [] (mk vi vl) post) (k2 : ¬ (vi 95 1) ≤ 0 → wp X (d + 1) k_M_end 0 0 24 [some (.ref 95), some (.int x1), some (.int x2), o3] [] (mk vi vl) post) : wp X (d + 1) k_M_end 0 0 17 [some (.ref 95), some (.int x1), some (.int x2), o3] [] (mk vi vl) post :=
  wr_aload_n (q := 0) (by decide +kernel) rfl rfl <|
  wr_getI (ci := 4) (k0 := 1) (idx := 127) lq_95 sq_95 (by decide) (by decide) lf_M_127 (Or.inl rfl) (by decide +kernel) <|
  wr_if_le (off := 6) (t := 27) (by decide +kernel) (by decide) k1 k2
theorem b_M_end_24 {X : aX} {d : Nat} {post : aO} {vi : Nat → Nat → Int32} {vl : Nat → Nat → Int64} {x1 x2 : Int32} {o3 : Option Value} (k1 : post (some (.int (-4 : Int32))) (mk vi vl)) : wp X (d + 1) k_M_end 0 0 24 [some (.ref 95), some (.int x1), some (.int x2), o3] [] (mk vi vl) post :=
  wr_bipush (n := -4) (v := (-4 : Int32)) (by decide +kernel) (by decide) <|
  wr_ret (r := some (.int (-4 : Int32))) (Or.inr (Or.inl ⟨_, rfl, (by decide +kernel), (Or.inl rfl)⟩)) k1
theorem b_M_end_27 {X : aX} {d : Nat} {post : aO} {vi : Nat → Nat → Int32} {vl : Nat → Nat → Int64} {x1 x2 : Int32} {o3 : Option Value} (q1 : vp_in ((28 : Int32) + x1) 5976) (q2 : vp_in ((28 : Int32) + x1) 5976) (k1 : ∀ w, w = up2 vi 96 ((28 : Int32) + x1).toNatClampNeg x2 → wp X (d + 1) k_M_end 0 0 47 [some (.ref 95), some (.int x1), some (.int x2), some (.int (vi 96 ((28 : Int32) + x1).toNatClampNeg))] [] (mk w vl) post) : wp X (d + 1) k_M_end 0 0 27 [some (.ref 95), some (.int x1), some (.int x2), o3] [] (mk vi vl) post :=
  wr_aload_n (q := 0) (by decide +kernel) rfl rfl <|
  wr_getR2 (b := 96) (ci := 4) (k0 := 0) (idx := 7) lq_95 sq_95 (by decide) (by decide) lf_M_7 rfl vq_95_0 lq_96 (by decide +kernel) <|
  wr_bipush (n := 28) (v := (28 : Int32)) (by decide +kernel) (by decide) <|
  wr_iload_n (q := 1) (by decide +kernel) rfl rfl <|
  wr_iadd (by decide +kernel) <|
  wr_iald lq_96 sq_96 q1 (by decide +kernel) <|
  wr_istore_n (q := 3) (by decide +kernel) rfl (by decide) <|
  wr_aload_n (q := 0) (by decide +kernel) rfl rfl <|
  wr_getR2 (b := 96) (ci := 4) (k0 := 0) (idx := 7) lq_95 sq_95 (by decide) (by decide) lf_M_7 rfl vq_95_0 lq_96 (by decide +kernel) <|
  wr_bipush (n := 28) (v := (28 : Int32)) (by decide +kernel) (by decide) <|
  wr_iload_n (q := 1) (by decide +kernel) rfl rfl <|
  wr_iadd (by decide +kernel) <|
  wr_iload_n (q := 2) (by decide +kernel) rfl rfl <|
  wr_iast lq_96 sq_96 q2 (by decide +kernel) <|
  k1 _ rfl
theorem b_M_end_47 {X : aX} {d : Nat} {post : aO} {vi : Nat → Nat → Int32} {vl : Nat → Nat → Int64} {x1 x2 x3 : Int32} (k1 : post (some (.int x3)) (mk vi vl)) : wp X (d + 1) k_M_end 0 0 47 [some (.ref 95), some (.int x1), some (.int x2), some (.int x3)] [] (mk vi vl) post :=
  wr_iload_n (q := 3) (by decide +kernel) rfl rfl <|
  wr_ret (r := some (.int x3)) (Or.inr (Or.inl ⟨_, rfl, (by decide +kernel), (Or.inl rfl)⟩)) k1
theorem b_M_isTold_0 {X : aX} {d : Nat} {post : aO} {vi : Nat → Nat → Int32} {vl : Nat → Nat → Int64} {x0 : Int32} (k1 : CallOk X d 0 0 k_M_in [.long x0.toInt64, .long (0 : Int64), .long (4 : Int64)] (mk vi vl) (fun r N' => wp X (d + 1) k_M_isTold 0 0 9 [some (.int x0)] (pR r []) N' post)) : wp X (d + 1) k_M_isTold 0 0 0 [some (.int x0)] [] (mk vi vl) post :=
  wr_iload_n (q := 0) (by decide +kernel) rfl rfl <|
  wr_i2l (by decide +kernel) <|
  wr_lconst (n := 0) (v := (0 : Int64)) (by decide +kernel) (by decide) <|
  wr_ldc2 (i := 130) (v := (4 : Int64)) (by decide +kernel) lj_M_130 <|
  wr_invS (mid2 := 118) (idx := 59) (b1 := 0) (b2 := 0) (c1 := 0) (c2 := 0) (as := [.long x0.toInt64, .long (0 : Int64), .long (4 : Int64)]) (st := []) pl_118 rfl (Nat.le_of_ble_eq_true rfl) rfl rfl lm_M_59 it_118 (by decide +kernel) k1
theorem b_M_isTold_9 {X : aX} {d : Nat} {post : aO} {vi : Nat → Nat → Int32} {vl : Nat → Nat → Int64} {x0 y0 : Int32} (q1 : y0 = 0 ∨ y0 = 1) (k1 : post (some (.int y0)) (mk vi vl)) : wp X (d + 1) k_M_isTold 0 0 9 [some (.int x0)] [.int y0] (mk vi vl) post :=
  wr_ret (r := some (.int y0)) (Or.inr (Or.inl ⟨_, rfl, (by decide +kernel), (Or.inr ⟨rfl, q1⟩)⟩)) k1
theorem b_M_sew_0 {X : aX} {d : Nat} {post : aO} {vi : Nat → Nat → Int32} {vl : Nat → Nat → Int64} {x1 x2 : Int32} (k1 : CallOk X d 0 0 k_M_isYear [.ref 95, .int x1] (mk vi vl) (fun r N' => wp X (d + 1) k_M_sew 0 0 5 [some (.ref 95), some (.int x1), some (.int x2)] (pR r []) N' post)) : wp X (d + 1) k_M_sew 0 0 0 [some (.ref 95), some (.int x1), some (.int x2)] [] (mk vi vl) post :=
  wr_aload_n (q := 0) (by decide +kernel) rfl rfl <|
  wr_iload_n (q := 1) (by decide +kernel) rfl rfl <|
  wr_invV (a := 95) (ci := 4) (mid2 := 143) (idx := 151) (b1 := 0) (b2 := 0) (c1 := 0) (c2 := 0) (as := [.int x1]) (st := []) pl_143 rfl (Nat.le_of_ble_eq_true rfl) rfl rfl lq_95 sq_95 (by decide) rfl lm_M_151 im_143 is_143 (by decide +kernel) k1
theorem b_M_sew_5 {X : aX} {d : Nat} {post : aO} {vi : Nat → Nat → Int32} {vl : Nat → Nat → Int64} {x1 x2 y0 : Int32} (k1 : y0 = 0 → wp X (d + 1) k_M_sew 0 0 15 [some (.ref 95), some (.int x1), some (.int x2)] [] (mk vi vl) post) (k2 : ¬ y0 = 0 → wp X (d + 1) k_M_sew 0 0 8 [some (.ref 95), some (.int x1), some (.int x2)] [] (mk vi vl) post) : wp X (d + 1) k_M_sew 0 0 5 [some (.ref 95), some (.int x1), some (.int x2)] [.int y0] (mk vi vl) post :=
  wr_if_eq (off := 10) (t := 15) (by decide +kernel) (by decide) k1 k2
theorem b_M_sew_8 {X : aX} {d : Nat} {post : aO} {vi : Nat → Nat → Int32} {vl : Nat → Nat → Int64} {x1 x2 : Int32} (k1 : CallOk X d 0 0 k_M_isTold [.int x2] (mk vi vl) (fun r N' => wp X (d + 1) k_M_sew 0 0 12 [some (.ref 95), some (.int x1), some (.int x2)] (pR r []) N' post)) : wp X (d + 1) k_M_sew 0 0 8 [some (.ref 95), some (.int x1), some (.int x2)] [] (mk vi vl) post :=
  wr_iload_n (q := 2) (by decide +kernel) rfl rfl <|
  wr_invS (mid2 := 157) (idx := 168) (b1 := 0) (b2 := 0) (c1 := 0) (c2 := 0) (as := [.int x2]) (st := []) pl_157 rfl (Nat.le_of_ble_eq_true rfl) rfl rfl lm_M_168 it_157 (by decide +kernel) k1
theorem b_M_sew_12 {X : aX} {d : Nat} {post : aO} {vi : Nat → Nat → Int32} {vl : Nat → Nat → Int64} {x1 x2 y0 : Int32} (k1 : ¬ y0 = 0 → wp X (d + 1) k_M_sew 0 0 17 [some (.ref 95), some (.int x1), some (.int x2)] [] (mk vi vl) post) (k2 : y0 = 0 → wp X (d + 1) k_M_sew 0 0 15 [some (.ref 95), some (.int x1), some (.int x2)] [] (mk vi vl) post) : wp X (d + 1) k_M_sew 0 0 12 [some (.ref 95), some (.int x1), some (.int x2)] [.int y0] (mk vi vl) post :=
  wr_if_ne (off := 5) (t := 17) (by decide +kernel) (by decide) k1 k2
theorem b_M_sew_15 {X : aX} {d : Nat} {post : aO} {vi : Nat → Nat → Int32} {vl : Nat → Nat → Int64} {x1 x2 : Int32} (k1 : post (some (.int (-1 : Int32))) (mk vi vl)) : wp X (d + 1) k_M_sew 0 0 15 [some (.ref 95), some (.int x1), some (.int x2)] [] (mk vi vl) post :=
  wr_iconst (n := -1) (v := (-1 : Int32)) (by decide +kernel) (by decide) <|
  wr_ret (r := some (.int (-1 : Int32))) (Or.inr (Or.inl ⟨_, rfl, (by decide +kernel), (Or.inl rfl)⟩)) k1
theorem b_M_sew_17 {X : aX} {d : Nat} {post : aO} {vi : Nat → Nat → Int32} {vl : Nat → Nat → Int64} {x1 x2 : Int32} (q1 : vp_in ((2 : Int32) + x1) 5976) (k1 : ¬ (vi 96 ((2 : Int32) + x1).toNatClampNeg) = (1 : Int32) → wp X (d + 1) k_M_sew 0 0 32 [some (.ref 95), some (.int x1), some (.int x2)] [] (mk vi vl) post) (k2 : (vi 96 ((2 : Int32) + x1).toNatClampNeg) = (1 : Int32) → wp X (d + 1) k_M_sew 0 0 29 [some (.ref 95), some (.int x1), some (.int x2)] [] (mk vi vl) post) : wp X (d + 1) k_M_sew 0 0 17 [some (.ref 95), some (.int x1), some (.int x2)] [] (mk vi vl) post :=
  wr_aload_n (q := 0) (by decide +kernel) rfl rfl <|
  wr_getR2 (b := 96) (ci := 4) (k0 := 0) (idx := 7) lq_95 sq_95 (by decide) (by decide) lf_M_7 rfl vq_95_0 lq_96 (by decide +kernel) <|
  wr_iconst (n := 2) (v := (2 : Int32)) (by decide +kernel) (by decide) <|
  wr_iload_n (q := 1) (by decide +kernel) rfl rfl <|
  wr_iadd (by decide +kernel) <|
  wr_iald lq_96 sq_96 q1 (by decide +kernel) <|
  wr_iconst (n := 1) (v := (1 : Int32)) (by decide +kernel) (by decide) <|
  wr_icmp_ne (off := 6) (t := 32) (by decide +kernel) (by decide) k1 k2
theorem b_M_sew_29 {X : aX} {d : Nat} {post : aO} {vi : Nat → Nat → Int32} {vl : Nat → Nat → Int64} {x1 x2 : Int32} (k1 : post (some (.int (-4 : Int32))) (mk vi vl)) : wp X (d + 1) k_M_sew 0 0 29 [some (.ref 95), some (.int x1), some (.int x2)] [] (mk vi vl) post :=
  wr_bipush (n := -4) (v := (-4 : Int32)) (by decide +kernel) (by decide) <|
  wr_ret (r := some (.int (-4 : Int32))) (Or.inr (Or.inl ⟨_, rfl, (by decide +kernel), (Or.inl rfl)⟩)) k1
theorem b_M_sew_32 {X : aX} {d : Nat} {post : aO} {vi : Nat → Nat → Int32} {vl : Nat → Nat → Int64} {x1 x2 : Int32} (k1 : ¬ (vi 95 1) = (40 : Int32) → wp X (d + 1) k_M_sew 0 0 44 [some (.ref 95), some (.int x1), some (.int x2)] [] (mk vi vl) post) (k2 : (vi 95 1) = (40 : Int32) → wp X (d + 1) k_M_sew 0 0 41 [some (.ref 95), some (.int x1), some (.int x2)] [] (mk vi vl) post) : wp X (d + 1) k_M_sew 0 0 32 [some (.ref 95), some (.int x1), some (.int x2)] [] (mk vi vl) post :=
  wr_aload_n (q := 0) (by decide +kernel) rfl rfl <|
  wr_getI (ci := 4) (k0 := 1) (idx := 127) lq_95 sq_95 (by decide) (by decide) lf_M_127 (Or.inl rfl) (by decide +kernel) <|
  wr_bipush (n := 40) (v := (40 : Int32)) (by decide +kernel) (by decide) <|
  wr_icmp_ne (off := 6) (t := 44) (by decide +kernel) (by decide) k1 k2
theorem b_M_sew_41 {X : aX} {d : Nat} {post : aO} {vi : Nat → Nat → Int32} {vl : Nat → Nat → Int64} {x1 x2 : Int32} (k1 : post (some (.int (-2 : Int32))) (mk vi vl)) : wp X (d + 1) k_M_sew 0 0 41 [some (.ref 95), some (.int x1), some (.int x2)] [] (mk vi vl) post :=
  wr_bipush (n := -2) (v := (-2 : Int32)) (by decide +kernel) (by decide) <|
  wr_ret (r := some (.int (-2 : Int32))) (Or.inr (Or.inl ⟨_, rfl, (by decide +kernel), (Or.inl rfl)⟩)) k1
theorem b_M_sew_44 {X : aX} {d : Nat} {post : aO} {vi : Nat → Nat → Int32} {vl : Nat → Nat → Int64} {x1 x2 : Int32} (k1 : CallOk X d 0 0 k_M_minds [.ref 95] (mk vi vl) (fun r N' => wp X (d + 1) k_M_sew 0 0 48 [some (.ref 95), some (.int x1), some (.int x2)] (pR r []) N' post)) : wp X (d + 1) k_M_sew 0 0 44 [some (.ref 95), some (.int x1), some (.int x2)] [] (mk vi vl) post :=
  wr_aload_n (q := 0) (by decide +kernel) rfl rfl <|
  wr_invV (a := 95) (ci := 4) (mid2 := 159) (idx := 171) (b1 := 0) (b2 := 0) (c1 := 0) (c2 := 0) (as := []) (st := []) pl_159 rfl (Nat.le_of_ble_eq_true rfl) rfl rfl lq_95 sq_95 (by decide) rfl lm_M_171 im_159 is_159 (by decide +kernel) k1
theorem b_M_sew_48 {X : aX} {d : Nat} {post : aO} {vi : Nat → Nat → Int32} {vl : Nat → Nat → Int64} {x1 x2 : Int32} (k1 : CallOk X d 0 0 k_M_sews [.ref 95, .int x1, .int x2] (mk vi vl) (fun r N' => wp X (d + 1) k_M_sew 0 0 54 [some (.ref 95), some (.int x1), some (.int x2)] (pR r []) N' post)) : wp X (d + 1) k_M_sew 0 0 48 [some (.ref 95), some (.int x1), some (.int x2)] [] (mk vi vl) post :=
  wr_aload_n (q := 0) (by decide +kernel) rfl rfl <|
  wr_iload_n (q := 1) (by decide +kernel) rfl rfl <|
  wr_iload_n (q := 2) (by decide +kernel) rfl rfl <|
  wr_invV (a := 95) (ci := 4) (mid2 := 160) (idx := 174) (b1 := 0) (b2 := 0) (c1 := 0) (c2 := 0) (as := [.int x1, .int x2]) (st := []) pl_160 rfl (Nat.le_of_ble_eq_true rfl) rfl rfl lq_95 sq_95 (by decide) rfl lm_M_174 im_160 is_160 (by decide +kernel) k1
theorem b_M_sew_54 {X : aX} {d : Nat} {post : aO} {vi : Nat → Nat → Int32} {vl : Nat → Nat → Int64} {x1 x2 : Int32} (k1 : CallOk X d 0 0 k_M_brokenNow [.ref 95] (mk vi vl) (fun r N' => wp X (d + 1) k_M_sew 0 0 58 [some (.ref 95), some (.int x1), some (.int x2)] (pR r []) N' post)) : wp X (d + 1) k_M_sew 0 0 54 [some (.ref 95), some (.int x1), some (.int x2)] [] (mk vi vl) post :=
  wr_aload_n (q := 0) (by decide +kernel) rfl rfl <|
  wr_invV (a := 95) (ci := 4) (mid2 := 161) (idx := 177) (b1 := 0) (b2 := 0) (c1 := 0) (c2 := 0) (as := []) (st := []) pl_161 rfl (Nat.le_of_ble_eq_true rfl) rfl rfl lq_95 sq_95 (by decide) rfl lm_M_177 im_161 is_161 (by decide +kernel) k1
theorem b_M_sew_58 {X : aX} {d : Nat} {post : aO} {vi : Nat → Nat → Int32} {vl : Nat → Nat → Int64} {x1 x2 y0 : Int32} (k1 : CallOk X d 0 0 k_M_ones [.int y0] (mk vi vl) (fun r N' => wp X (d + 1) k_M_sew 0 0 61 [some (.ref 95), some (.int x1), some (.int x2)] (pR r []) N' post)) : wp X (d + 1) k_M_sew 0 0 58 [some (.ref 95), some (.int x1), some (.int x2)] [.int y0] (mk vi vl) post :=
  wr_invS (mid2 := 153) (idx := 142) (b1 := 0) (b2 := 0) (c1 := 0) (c2 := 0) (as := [.int y0]) (st := []) pl_153 rfl (Nat.le_of_ble_eq_true rfl) rfl rfl lm_M_142 it_153 (by decide +kernel) k1
theorem b_M_sew_61 {X : aX} {d : Nat} {post : aO} {vi : Nat → Nat → Int32} {vl : Nat → Nat → Int64} {x1 x2 y0 : Int32} (k1 : post (some (.int y0)) (mk vi vl)) : wp X (d + 1) k_M_sew 0 0 61 [some (.ref 95), some (.int x1), some (.int x2)] [.int y0] (mk vi vl) post :=
  wr_ret (r := some (.int y0)) (Or.inr (Or.inl ⟨_, rfl, (by decide +kernel), (Or.inl rfl)⟩)) k1
theorem b_M_minds_0 {X : aX} {d : Nat} {post : aO} {vi : Nat → Nat → Int32} {vl : Nat → Nat → Int64}  (k1 : CallOk X d 0 0 k_M_copyAll [.ref 95, .int (0 : Int32), .int ((36 : Int32) * ((vi 95 1) + (1 : Int32))), .int (36 : Int32)] (mk vi vl) (fun r N' => wp X (d + 1) k_M_minds 0 0 16 [some (.ref 95)] (pR r []) N' post)) : wp X (d + 1) k_M_minds 0 0 0 [some (.ref 95)] [] (mk vi vl) post :=
  wr_aload_n (q := 0) (by decide +kernel) rfl rfl <|
  wr_iconst (n := 0) (v := (0 : Int32)) (by decide +kernel) (by decide) <|
  wr_bipush (n := 36) (v := (36 : Int32)) (by decide +kernel) (by decide) <|
  wr_aload_n (q := 0) (by decide +kernel) rfl rfl <|
  wr_getI (ci := 4) (k0 := 1) (idx := 127) lq_95 sq_95 (by decide) (by decide) lf_M_127 (Or.inl rfl) (by decide +kernel) <|
  wr_iconst (n := 1) (v := (1 : Int32)) (by decide +kernel) (by decide) <|
  wr_iadd (by decide +kernel) <|
  wr_imul (by decide +kernel) <|
  wr_bipush (n := 36) (v := (36 : Int32)) (by decide +kernel) (by decide) <|
  wr_invV (a := 95) (ci := 4) (mid2 := 141) (idx := 123) (b1 := 0) (b2 := 0) (c1 := 0) (c2 := 0) (as := [.int (0 : Int32), .int ((36 : Int32) * ((vi 95 1) + (1 : Int32))), .int (36 : Int32)]) (st := []) pl_141 rfl (Nat.le_of_ble_eq_true rfl) rfl rfl lq_95 sq_95 (by decide) rfl lm_M_123 im_141 is_141 (by decide +kernel) k1
theorem b_M_minds_16 {X : aX} {d : Nat} {post : aO} {vi : Nat → Nat → Int32} {vl : Nat → Nat → Int64}  (k1 : ∀ w, w = up2 vi 95 1 ((vi 95 1) + (1 : Int32)) → wp X (d + 1) k_M_minds 0 0 26 [some (.ref 95)] [] (mk w vl) post) : wp X (d + 1) k_M_minds 0 0 16 [some (.ref 95)] [] (mk vi vl) post :=
  wr_aload_n (q := 0) (by decide +kernel) rfl rfl <|
  wr_dup (by decide +kernel) rfl <|
  wr_getI (ci := 4) (k0 := 1) (idx := 127) lq_95 sq_95 (by decide) (by decide) lf_M_127 (Or.inl rfl) (by decide +kernel) <|
  wr_iconst (n := 1) (v := (1 : Int32)) (by decide +kernel) (by decide) <|
  wr_iadd (by decide +kernel) <|
  wr_putI (ci := 4) (k0 := 1) (idx := 127) lq_95 sq_95 (by decide) (by decide) lf_M_127 rfl (by decide +kernel) <|
  k1 _ rfl
theorem b_M_minds_26 {X : aX} {d : Nat} {post : aO} {vi : Nat → Nat → Int32} {vl : Nat → Nat → Int64}  (k1 : post none (mk vi vl)) : wp X (d + 1) k_M_minds 0 0 26 [some (.ref 95)] [] (mk vi vl) post :=
  wr_ret (r := none) (Or.inl ⟨rfl, (by decide +kernel), rfl⟩) k1
theorem b_M_sews_0 {X : aX} {d : Nat} {post : aO} {vi : Nat → Nat → Int32} {vl : Nat → Nat → Int64} {x1 x2 : Int32} (q1 : vp_in ((2 : Int32) + x1) 5976) (k1 : ∀ w, w = up2 vi 96 ((2 : Int32) + x1).toNatClampNeg (1 : Int32) → wp X (d + 1) k_M_sews 0 0 9 [some (.ref 95), some (.int x1), some (.int x2)] [] (mk w vl) post) : wp X (d + 1) k_M_sews 0 0 0 [some (.ref 95), some (.int x1), some (.int x2)] [] (mk vi vl) post :=
  wr_aload_n (q := 0) (by decide +kernel) rfl rfl <|
  wr_getR2 (b := 96) (ci := 4) (k0 := 0) (idx := 7) lq_95 sq_95 (by decide) (by decide) lf_M_7 rfl vq_95_0 lq_96 (by decide +kernel) <|
  wr_iconst (n := 2) (v := (2 : Int32)) (by decide +kernel) (by decide) <|
  wr_iload_n (q := 1) (by decide +kernel) rfl rfl <|
  wr_iadd (by decide +kernel) <|
  wr_iconst (n := 1) (v := (1 : Int32)) (by decide +kernel) (by decide) <|
  wr_iast lq_96 sq_96 q1 (by decide +kernel) <|
  k1 _ rfl
theorem b_M_sews_9 {X : aX} {d : Nat} {post : aO} {vi : Nat → Nat → Int32} {vl : Nat → Nat → Int64} {x1 x2 : Int32} (q1 : vp_in ((7 : Int32) + x1) 5976) (k1 : ∀ w, w = up2 vi 96 ((7 : Int32) + x1).toNatClampNeg x2 → wp X (d + 1) k_M_sews 0 0 19 [some (.ref 95), some (.int x1), some (.int x2)] [] (mk w vl) post) : wp X (d + 1) k_M_sews 0 0 9 [some (.ref 95), some (.int x1), some (.int x2)] [] (mk vi vl) post :=
  wr_aload_n (q := 0) (by decide +kernel) rfl rfl <|
  wr_getR2 (b := 96) (ci := 4) (k0 := 0) (idx := 7) lq_95 sq_95 (by decide) (by decide) lf_M_7 rfl vq_95_0 lq_96 (by decide +kernel) <|
  wr_bipush (n := 7) (v := (7 : Int32)) (by decide +kernel) (by decide) <|
  wr_iload_n (q := 1) (by decide +kernel) rfl rfl <|
  wr_iadd (by decide +kernel) <|
  wr_iload_n (q := 2) (by decide +kernel) rfl rfl <|
  wr_iast lq_96 sq_96 q1 (by decide +kernel) <|
  k1 _ rfl
theorem b_M_sews_19 {X : aX} {d : Nat} {post : aO} {vi : Nat → Nat → Int32} {vl : Nat → Nat → Int64} {x1 x2 : Int32} (k1 : post none (mk vi vl)) : wp X (d + 1) k_M_sews 0 0 19 [some (.ref 95), some (.int x1), some (.int x2)] [] (mk vi vl) post :=
  wr_ret (r := none) (Or.inl ⟨rfl, (by decide +kernel), rfl⟩) k1
theorem b_M_brokenNow_0 {X : aX} {d : Nat} {post : aO} {vi : Nat → Nat → Int32} {vl : Nat → Nat → Int64}  (k1 : CallOk X d 0 0 k_M_plays [.ref 95] (mk vi vl) (fun r N' => wp X (d + 1) k_M_brokenNow 0 0 4 [some (.ref 95), none, none] (pR r []) N' post)) : wp X (d + 1) k_M_brokenNow 0 0 0 [some (.ref 95), none, none] [] (mk vi vl) post :=
  wr_aload_n (q := 0) (by decide +kernel) rfl rfl <|
  wr_invV (a := 95) (ci := 4) (mid2 := 144) (idx := 145) (b1 := 0) (b2 := 0) (c1 := 0) (c2 := 0) (as := []) (st := []) pl_144 rfl (Nat.le_of_ble_eq_true rfl) rfl rfl lq_95 sq_95 (by decide) rfl lm_M_145 im_144 is_144 (by decide +kernel) k1
theorem b_M_brokenNow_4 {X : aX} {d : Nat} {post : aO} {vi : Nat → Nat → Int32} {vl : Nat → Nat → Int64} {o1 o2 : Option Value} (k1 : wp X (d + 1) k_M_brokenNow 0 0 8 [some (.ref 95), some (.int (0 : Int32)), some (.int (0 : Int32))] [] (mk vi vl) post) : wp X (d + 1) k_M_brokenNow 0 0 4 [some (.ref 95), o1, o2] [] (mk vi vl) post :=
  wr_iconst (n := 0) (v := (0 : Int32)) (by decide +kernel) (by decide) <|
  wr_istore_n (q := 1) (by decide +kernel) rfl (by decide) <|
  wr_iconst (n := 0) (v := (0 : Int32)) (by decide +kernel) (by decide) <|
  wr_istore_n (q := 2) (by decide +kernel) rfl (by decide) <|
  k1
theorem b_M_brokenNow_8 {X : aX} {d : Nat} {post : aO} {vi : Nat → Nat → Int32} {vl : Nat → Nat → Int64} {x1 x2 : Int32} (k1 : (vi 96 1) ≤ x2 → wp X (d + 1) k_M_brokenNow 0 0 42 [some (.ref 95), some (.int x1), some (.int x2)] [] (mk vi vl) post) (k2 : ¬ (vi 96 1) ≤ x2 → wp X (d + 1) k_M_brokenNow 0 0 18 [some (.ref 95), some (.int x1), some (.int x2)] [] (mk vi vl) post) : wp X (d + 1) k_M_brokenNow 0 0 8 [some (.ref 95), some (.int x1), some (.int x2)] [] (mk vi vl) post :=
  wr_iload_n (q := 2) (by decide +kernel) rfl rfl <|
  wr_aload_n (q := 0) (by decide +kernel) rfl rfl <|
  wr_getR2 (b := 96) (ci := 4) (k0 := 0) (idx := 7) lq_95 sq_95 (by decide) (by decide) lf_M_7 rfl vq_95_0 lq_96 (by decide +kernel) <|
  wr_iconst (n := 1) (v := (1 : Int32)) (by decide +kernel) (by decide) <|
  wr_iald lq_96 sq_96 (by unfold vp_in; decide) (by decide +kernel) <|
  wr_icmp_ge (off := 27) (t := 42) (by decide +kernel) (by decide) k1 k2
theorem b_M_brokenNow_18 {X : aX} {d : Nat} {post : aO} {vi : Nat → Nat → Int32} {vl : Nat → Nat → Int64} {x1 x2 : Int32} (k1 : CallOk X d 0 0 k_M_isBroken [.ref 95, .int x2] (mk vi vl) (fun r N' => wp X (d + 1) k_M_brokenNow 0 0 24 [some (.ref 95), some (.int x1), some (.int x2)] (pR r [.int x1]) N' post)) : wp X (d + 1) k_M_brokenNow 0 0 18 [some (.ref 95), some (.int x1), some (.int x2)] [] (mk vi vl) post :=
  wr_iload_n (q := 1) (by decide +kernel) rfl rfl <|
  wr_aload_n (q := 0) (by decide +kernel) rfl rfl <|
  wr_iload_n (q := 2) (by decide +kernel) rfl rfl <|
  wr_invV (a := 95) (ci := 4) (mid2 := 151) (idx := 148) (b1 := 0) (b2 := 0) (c1 := 0) (c2 := 0) (as := [.int x2]) (st := [.int x1]) pl_151 rfl (Nat.le_of_ble_eq_true rfl) rfl rfl lq_95 sq_95 (by decide) rfl lm_M_148 im_151 is_151 (by decide +kernel) k1
theorem b_M_brokenNow_24 {X : aX} {d : Nat} {post : aO} {vi : Nat → Nat → Int32} {vl : Nat → Nat → Int64} {x1 x2 y0 y1 : Int32} (k1 : y1 = 0 → wp X (d + 1) k_M_brokenNow 0 0 33 [some (.ref 95), some (.int x1), some (.int x2)] [.int y0] (mk vi vl) post) (k2 : ¬ y1 = 0 → wp X (d + 1) k_M_brokenNow 0 0 27 [some (.ref 95), some (.int x1), some (.int x2)] [.int y0] (mk vi vl) post) : wp X (d + 1) k_M_brokenNow 0 0 24 [some (.ref 95), some (.int x1), some (.int x2)] [.int y1, .int y0] (mk vi vl) post :=
  wr_if_eq (off := 9) (t := 33) (by decide +kernel) (by decide) k1 k2
theorem b_M_brokenNow_27 {X : aX} {d : Nat} {post : aO} {vi : Nat → Nat → Int32} {vl : Nat → Nat → Int64} {x1 x2 y0 : Int32} (k1 : wp X (d + 1) k_M_brokenNow 0 0 34 [some (.ref 95), some (.int x1), some (.int x2)] [.int ((1 : Int32) <<< (x2 &&& 31)), .int y0] (mk vi vl) post) : wp X (d + 1) k_M_brokenNow 0 0 27 [some (.ref 95), some (.int x1), some (.int x2)] [.int y0] (mk vi vl) post :=
  wr_iconst (n := 1) (v := (1 : Int32)) (by decide +kernel) (by decide) <|
  wr_iload_n (q := 2) (by decide +kernel) rfl rfl <|
  wr_ishl (by decide +kernel) <|
  wr_goto (off := 4) (t := 34) (by decide +kernel) (by decide) k1
theorem b_M_brokenNow_33 {X : aX} {d : Nat} {post : aO} {vi : Nat → Nat → Int32} {vl : Nat → Nat → Int64} {x1 x2 y0 : Int32} (k1 : wp X (d + 1) k_M_brokenNow 0 0 34 [some (.ref 95), some (.int x1), some (.int x2)] [.int (0 : Int32), .int y0] (mk vi vl) post) : wp X (d + 1) k_M_brokenNow 0 0 33 [some (.ref 95), some (.int x1), some (.int x2)] [.int y0] (mk vi vl) post :=
  wr_iconst (n := 0) (v := (0 : Int32)) (by decide +kernel) (by decide) <|
  k1
theorem b_M_brokenNow_34 {X : aX} {d : Nat} {post : aO} {vi : Nat → Nat → Int32} {vl : Nat → Nat → Int64} {x1 x2 y0 y1 : Int32} (k1 : wp X (d + 1) k_M_brokenNow 0 0 8 [some (.ref 95), some (.int (y0 ||| y1)), some (.int (x2 + (1 : Int32)))] [] (mk vi vl) post) : wp X (d + 1) k_M_brokenNow 0 0 34 [some (.ref 95), some (.int x1), some (.int x2)] [.int y1, .int y0] (mk vi vl) post :=
  wr_ior (by decide +kernel) <|
  wr_istore_n (q := 1) (by decide +kernel) rfl (by decide) <|
  wr_iinc (i := 2) (n := 1) (v := (1 : Int32)) (by decide +kernel) rfl (by decide) (by decide) <|
  wr_goto (off := -31) (t := 8) (by decide +kernel) (by decide) k1
theorem b_M_brokenNow_42 {X : aX} {d : Nat} {post : aO} {vi : Nat → Nat → Int32} {vl : Nat → Nat → Int64} {x1 x2 : Int32} (k1 : post (some (.int x1)) (mk vi vl)) : wp X (d + 1) k_M_brokenNow 0 0 42 [some (.ref 95), some (.int x1), some (.int x2)] [] (mk vi vl) post :=
  wr_iload_n (q := 1) (by decide +kernel) rfl rfl <|
  wr_ret (r := some (.int x1)) (Or.inr (Or.inl ⟨_, rfl, (by decide +kernel), (Or.inl rfl)⟩)) k1
theorem b_M_unpick_0 {X : aX} {d : Nat} {post : aO} {vi : Nat → Nat → Int32} {vl : Nat → Nat → Int64} {x1 : Int32} (k1 : CallOk X d 0 0 k_M_isYear [.ref 95, .int x1] (mk vi vl) (fun r N' => wp X (d + 1) k_M_unpick 0 0 5 [some (.ref 95), some (.int x1)] (pR r []) N' post)) : wp X (d + 1) k_M_unpick 0 0 0 [some (.ref 95), some (.int x1)] [] (mk vi vl) post :=
  wr_aload_n (q := 0) (by decide +kernel) rfl rfl <|
  wr_iload_n (q := 1) (by decide +kernel) rfl rfl <|
  wr_invV (a := 95) (ci := 4) (mid2 := 143) (idx := 151) (b1 := 0) (b2 := 0) (c1 := 0) (c2 := 0) (as := [.int x1]) (st := []) pl_143 rfl (Nat.le_of_ble_eq_true rfl) rfl rfl lq_95 sq_95 (by decide) rfl lm_M_151 im_143 is_143 (by decide +kernel) k1
theorem b_M_unpick_5 {X : aX} {d : Nat} {post : aO} {vi : Nat → Nat → Int32} {vl : Nat → Nat → Int64} {x1 y0 : Int32} (k1 : ¬ y0 = 0 → wp X (d + 1) k_M_unpick 0 0 10 [some (.ref 95), some (.int x1)] [] (mk vi vl) post) (k2 : y0 = 0 → wp X (d + 1) k_M_unpick 0 0 8 [some (.ref 95), some (.int x1)] [] (mk vi vl) post) : wp X (d + 1) k_M_unpick 0 0 5 [some (.ref 95), some (.int x1)] [.int y0] (mk vi vl) post :=
  wr_if_ne (off := 5) (t := 10) (by decide +kernel) (by decide) k1 k2
theorem b_M_unpick_8 {X : aX} {d : Nat} {post : aO} {vi : Nat → Nat → Int32} {vl : Nat → Nat → Int64} {x1 : Int32} (k1 : post (some (.int (-1 : Int32))) (mk vi vl)) : wp X (d + 1) k_M_unpick 0 0 8 [some (.ref 95), some (.int x1)] [] (mk vi vl) post :=
  wr_iconst (n := -1) (v := (-1 : Int32)) (by decide +kernel) (by decide) <|
  wr_ret (r := some (.int (-1 : Int32))) (Or.inr (Or.inl ⟨_, rfl, (by decide +kernel), (Or.inl rfl)⟩)) k1
theorem b_M_unpick_10 {X : aX} {d : Nat} {post : aO} {vi : Nat → Nat → Int32} {vl : Nat → Nat → Int64} {x1 : Int32} (q1 : vp_in ((2 : Int32) + x1) 5976) (k1 : (vi 96 ((2 : Int32) + x1).toNatClampNeg) = (1 : Int32) → wp X (d + 1) k_M_unpick 0 0 25 [some (.ref 95), some (.int x1)] [] (mk vi vl) post) (k2 : ¬ (vi 96 ((2 : Int32) + x1).toNatClampNeg) = (1 : Int32) → wp X (d + 1) k_M_unpick 0 0 22 [some (.ref 95), some (.int x1)] [] (mk vi vl) post) : wp X (d + 1) k_M_unpick 0 0 10 [some (.ref 95), some (.int x1)] [] (mk vi vl) post :=
  wr_aload_n (q := 0) (by decide +kernel) rfl rfl <|
  wr_getR2 (b := 96) (ci := 4) (k0 := 0) (idx := 7) lq_95 sq_95 (by decide) (by decide) lf_M_7 rfl vq_95_0 lq_96 (by decide +kernel) <|
  wr_iconst (n := 2) (v := (2 : Int32)) (by decide +kernel) (by decide) <|
  wr_iload_n (q := 1) (by decide +kernel) rfl rfl <|
  wr_iadd (by decide +kernel) <|
  wr_iald lq_96 sq_96 q1 (by decide +kernel) <|
  wr_iconst (n := 1) (v := (1 : Int32)) (by decide +kernel) (by decide) <|
  wr_icmp_eq (off := 6) (t := 25) (by decide +kernel) (by decide) k1 k2
theorem b_M_unpick_22 {X : aX} {d : Nat} {post : aO} {vi : Nat → Nat → Int32} {vl : Nat → Nat → Int64} {x1 : Int32} (k1 : post (some (.int (-4 : Int32))) (mk vi vl)) : wp X (d + 1) k_M_unpick 0 0 22 [some (.ref 95), some (.int x1)] [] (mk vi vl) post :=
  wr_bipush (n := -4) (v := (-4 : Int32)) (by decide +kernel) (by decide) <|
  wr_ret (r := some (.int (-4 : Int32))) (Or.inr (Or.inl ⟨_, rfl, (by decide +kernel), (Or.inl rfl)⟩)) k1
theorem b_M_unpick_25 {X : aX} {d : Nat} {post : aO} {vi : Nat → Nat → Int32} {vl : Nat → Nat → Int64} {x1 : Int32} (k1 : ¬ (vi 95 1) = (40 : Int32) → wp X (d + 1) k_M_unpick 0 0 37 [some (.ref 95), some (.int x1)] [] (mk vi vl) post) (k2 : (vi 95 1) = (40 : Int32) → wp X (d + 1) k_M_unpick 0 0 34 [some (.ref 95), some (.int x1)] [] (mk vi vl) post) : wp X (d + 1) k_M_unpick 0 0 25 [some (.ref 95), some (.int x1)] [] (mk vi vl) post :=
  wr_aload_n (q := 0) (by decide +kernel) rfl rfl <|
  wr_getI (ci := 4) (k0 := 1) (idx := 127) lq_95 sq_95 (by decide) (by decide) lf_M_127 (Or.inl rfl) (by decide +kernel) <|
  wr_bipush (n := 40) (v := (40 : Int32)) (by decide +kernel) (by decide) <|
  wr_icmp_ne (off := 6) (t := 37) (by decide +kernel) (by decide) k1 k2
theorem b_M_unpick_34 {X : aX} {d : Nat} {post : aO} {vi : Nat → Nat → Int32} {vl : Nat → Nat → Int64} {x1 : Int32} (k1 : post (some (.int (-2 : Int32))) (mk vi vl)) : wp X (d + 1) k_M_unpick 0 0 34 [some (.ref 95), some (.int x1)] [] (mk vi vl) post :=
  wr_bipush (n := -2) (v := (-2 : Int32)) (by decide +kernel) (by decide) <|
  wr_ret (r := some (.int (-2 : Int32))) (Or.inr (Or.inl ⟨_, rfl, (by decide +kernel), (Or.inl rfl)⟩)) k1
theorem b_M_unpick_37 {X : aX} {d : Nat} {post : aO} {vi : Nat → Nat → Int32} {vl : Nat → Nat → Int64} {x1 : Int32} (k1 : CallOk X d 0 0 k_M_minds [.ref 95] (mk vi vl) (fun r N' => wp X (d + 1) k_M_unpick 0 0 41 [some (.ref 95), some (.int x1)] (pR r []) N' post)) : wp X (d + 1) k_M_unpick 0 0 37 [some (.ref 95), some (.int x1)] [] (mk vi vl) post :=
  wr_aload_n (q := 0) (by decide +kernel) rfl rfl <|
  wr_invV (a := 95) (ci := 4) (mid2 := 159) (idx := 171) (b1 := 0) (b2 := 0) (c1 := 0) (c2 := 0) (as := []) (st := []) pl_159 rfl (Nat.le_of_ble_eq_true rfl) rfl rfl lq_95 sq_95 (by decide) rfl lm_M_171 im_159 is_159 (by decide +kernel) k1
theorem b_M_unpick_41 {X : aX} {d : Nat} {post : aO} {vi : Nat → Nat → Int32} {vl : Nat → Nat → Int64} {x1 : Int32} (q1 : vp_in ((2 : Int32) + x1) 5976) (k1 : ∀ w, w = up2 vi 96 ((2 : Int32) + x1).toNatClampNeg (2 : Int32) → wp X (d + 1) k_M_unpick 0 0 50 [some (.ref 95), some (.int x1)] [] (mk w vl) post) : wp X (d + 1) k_M_unpick 0 0 41 [some (.ref 95), some (.int x1)] [] (mk vi vl) post :=
  wr_aload_n (q := 0) (by decide +kernel) rfl rfl <|
  wr_getR2 (b := 96) (ci := 4) (k0 := 0) (idx := 7) lq_95 sq_95 (by decide) (by decide) lf_M_7 rfl vq_95_0 lq_96 (by decide +kernel) <|
  wr_iconst (n := 2) (v := (2 : Int32)) (by decide +kernel) (by decide) <|
  wr_iload_n (q := 1) (by decide +kernel) rfl rfl <|
  wr_iadd (by decide +kernel) <|
  wr_iconst (n := 2) (v := (2 : Int32)) (by decide +kernel) (by decide) <|
  wr_iast lq_96 sq_96 q1 (by decide +kernel) <|
  k1 _ rfl
theorem b_M_unpick_50 {X : aX} {d : Nat} {post : aO} {vi : Nat → Nat → Int32} {vl : Nat → Nat → Int64} {x1 : Int32} (k1 : CallOk X d 0 0 k_M_brokenNow [.ref 95] (mk vi vl) (fun r N' => wp X (d + 1) k_M_unpick 0 0 54 [some (.ref 95), some (.int x1)] (pR r []) N' post)) : wp X (d + 1) k_M_unpick 0 0 50 [some (.ref 95), some (.int x1)] [] (mk vi vl) post :=
  wr_aload_n (q := 0) (by decide +kernel) rfl rfl <|
  wr_invV (a := 95) (ci := 4) (mid2 := 161) (idx := 177) (b1 := 0) (b2 := 0) (c1 := 0) (c2 := 0) (as := []) (st := []) pl_161 rfl (Nat.le_of_ble_eq_true rfl) rfl rfl lq_95 sq_95 (by decide) rfl lm_M_177 im_161 is_161 (by decide +kernel) k1
theorem b_M_unpick_54 {X : aX} {d : Nat} {post : aO} {vi : Nat → Nat → Int32} {vl : Nat → Nat → Int64} {x1 y0 : Int32} (k1 : CallOk X d 0 0 k_M_ones [.int y0] (mk vi vl) (fun r N' => wp X (d + 1) k_M_unpick 0 0 57 [some (.ref 95), some (.int x1)] (pR r []) N' post)) : wp X (d + 1) k_M_unpick 0 0 54 [some (.ref 95), some (.int x1)] [.int y0] (mk vi vl) post :=
  wr_invS (mid2 := 153) (idx := 142) (b1 := 0) (b2 := 0) (c1 := 0) (c2 := 0) (as := [.int y0]) (st := []) pl_153 rfl (Nat.le_of_ble_eq_true rfl) rfl rfl lm_M_142 it_153 (by decide +kernel) k1
theorem b_M_unpick_57 {X : aX} {d : Nat} {post : aO} {vi : Nat → Nat → Int32} {vl : Nat → Nat → Int64} {x1 y0 : Int32} (k1 : post (some (.int y0)) (mk vi vl)) : wp X (d + 1) k_M_unpick 0 0 57 [some (.ref 95), some (.int x1)] [.int y0] (mk vi vl) post :=
  wr_ret (r := some (.int y0)) (Or.inr (Or.inl ⟨_, rfl, (by decide +kernel), (Or.inl rfl)⟩)) k1
theorem b_M_undo_0 {X : aX} {d : Nat} {post : aO} {vi : Nat → Nat → Int32} {vl : Nat → Nat → Int64} {x1 : Int32} (k1 : CallOk X d 0 0 k_M_in [.long x1.toInt64, .long (0 : Int64), .long ((vi 95 1).toInt64)] (mk vi vl) (fun r N' => wp X (d + 1) k_M_undo 0 0 11 [some (.ref 95), some (.int x1), none] (pR r []) N' post)) : wp X (d + 1) k_M_undo 0 0 0 [some (.ref 95), some (.int x1), none] [] (mk vi vl) post :=
  wr_iload_n (q := 1) (by decide +kernel) rfl rfl <|
  wr_i2l (by decide +kernel) <|
  wr_lconst (n := 0) (v := (0 : Int64)) (by decide +kernel) (by decide) <|
  wr_aload_n (q := 0) (by decide +kernel) rfl rfl <|
  wr_getI (ci := 4) (k0 := 1) (idx := 127) lq_95 sq_95 (by decide) (by decide) lf_M_127 (Or.inl rfl) (by decide +kernel) <|
  wr_i2l (by decide +kernel) <|
  wr_invS (mid2 := 118) (idx := 59) (b1 := 0) (b2 := 0) (c1 := 0) (c2 := 0) (as := [.long x1.toInt64, .long (0 : Int64), .long ((vi 95 1).toInt64)]) (st := []) pl_118 rfl (Nat.le_of_ble_eq_true rfl) rfl rfl lm_M_59 it_118 (by decide +kernel) k1
theorem b_M_undo_11 {X : aX} {d : Nat} {post : aO} {vi : Nat → Nat → Int32} {vl : Nat → Nat → Int64} {x1 y0 : Int32} {o2 : Option Value} (k1 : ¬ y0 = 0 → wp X (d + 1) k_M_undo 0 0 16 [some (.ref 95), some (.int x1), o2] [] (mk vi vl) post) (k2 : y0 = 0 → wp X (d + 1) k_M_undo 0 0 14 [some (.ref 95), some (.int x1), o2] [] (mk vi vl) post) : wp X (d + 1) k_M_undo 0 0 11 [some (.ref 95), some (.int x1), o2] [.int y0] (mk vi vl) post :=
  wr_if_ne (off := 5) (t := 16) (by decide +kernel) (by decide) k1 k2
theorem b_M_undo_14 {X : aX} {d : Nat} {post : aO} {vi : Nat → Nat → Int32} {vl : Nat → Nat → Int64} {x1 : Int32} {o2 : Option Value} (k1 : post (some (.int (-1 : Int32))) (mk vi vl)) : wp X (d + 1) k_M_undo 0 0 14 [some (.ref 95), some (.int x1), o2] [] (mk vi vl) post :=
  wr_iconst (n := -1) (v := (-1 : Int32)) (by decide +kernel) (by decide) <|
  wr_ret (r := some (.int (-1 : Int32))) (Or.inr (Or.inl ⟨_, rfl, (by decide +kernel), (Or.inl rfl)⟩)) k1
theorem b_M_undo_16 {X : aX} {d : Nat} {post : aO} {vi : Nat → Nat → Int32} {vl : Nat → Nat → Int64} {x1 : Int32} {o2 : Option Value} (k1 : ((vi 95 1) - x1) ≤ 0 → wp X (d + 1) k_M_undo 0 0 45 [some (.ref 95), some (.int x1), some (.int ((vi 95 1) - x1))] [] (mk vi vl) post) (k2 : ¬ ((vi 95 1) - x1) ≤ 0 → wp X (d + 1) k_M_undo 0 0 27 [some (.ref 95), some (.int x1), some (.int ((vi 95 1) - x1))] [] (mk vi vl) post) : wp X (d + 1) k_M_undo 0 0 16 [some (.ref 95), some (.int x1), o2] [] (mk vi vl) post :=
  wr_aload_n (q := 0) (by decide +kernel) rfl rfl <|
  wr_getI (ci := 4) (k0 := 1) (idx := 127) lq_95 sq_95 (by decide) (by decide) lf_M_127 (Or.inl rfl) (by decide +kernel) <|
  wr_iload_n (q := 1) (by decide +kernel) rfl rfl <|
  wr_isub (by decide +kernel) <|
  wr_istore_n (q := 2) (by decide +kernel) rfl (by decide) <|
  wr_iload_n (q := 2) (by decide +kernel) rfl rfl <|
  wr_if_le (off := 21) (t := 45) (by decide +kernel) (by decide) k1 k2
theorem b_M_undo_27 {X : aX} {d : Nat} {post : aO} {vi : Nat → Nat → Int32} {vl : Nat → Nat → Int64} {x1 x2 : Int32} (k1 : CallOk X d 0 0 k_M_copyAll [.ref 95, .int ((36 : Int32) * (x1 + (1 : Int32))), .int (0 : Int32), .int (36 : Int32)] (mk vi vl) (fun r N' => wp X (d + 1) k_M_undo 0 0 40 [some (.ref 95), some (.int x1), some (.int x2)] (pR r []) N' post)) : wp X (d + 1) k_M_undo 0 0 27 [some (.ref 95), some (.int x1), some (.int x2)] [] (mk vi vl) post :=
  wr_aload_n (q := 0) (by decide +kernel) rfl rfl <|
  wr_bipush (n := 36) (v := (36 : Int32)) (by decide +kernel) (by decide) <|
  wr_iload_n (q := 1) (by decide +kernel) rfl rfl <|
  wr_iconst (n := 1) (v := (1 : Int32)) (by decide +kernel) (by decide) <|
  wr_iadd (by decide +kernel) <|
  wr_imul (by decide +kernel) <|
  wr_iconst (n := 0) (v := (0 : Int32)) (by decide +kernel) (by decide) <|
  wr_bipush (n := 36) (v := (36 : Int32)) (by decide +kernel) (by decide) <|
  wr_invV (a := 95) (ci := 4) (mid2 := 141) (idx := 123) (b1 := 0) (b2 := 0) (c1 := 0) (c2 := 0) (as := [.int ((36 : Int32) * (x1 + (1 : Int32))), .int (0 : Int32), .int (36 : Int32)]) (st := []) pl_141 rfl (Nat.le_of_ble_eq_true rfl) rfl rfl lq_95 sq_95 (by decide) rfl lm_M_123 im_141 is_141 (by decide +kernel) k1
theorem b_M_undo_40 {X : aX} {d : Nat} {post : aO} {vi : Nat → Nat → Int32} {vl : Nat → Nat → Int64} {x1 x2 : Int32} (k1 : ∀ w, w = up2 vi 95 1 x1 → wp X (d + 1) k_M_undo 0 0 45 [some (.ref 95), some (.int x1), some (.int x2)] [] (mk w vl) post) : wp X (d + 1) k_M_undo 0 0 40 [some (.ref 95), some (.int x1), some (.int x2)] [] (mk vi vl) post :=
  wr_aload_n (q := 0) (by decide +kernel) rfl rfl <|
  wr_iload_n (q := 1) (by decide +kernel) rfl rfl <|
  wr_putI (ci := 4) (k0 := 1) (idx := 127) lq_95 sq_95 (by decide) (by decide) lf_M_127 rfl (by decide +kernel) <|
  k1 _ rfl
theorem b_M_undo_45 {X : aX} {d : Nat} {post : aO} {vi : Nat → Nat → Int32} {vl : Nat → Nat → Int64} {x1 x2 : Int32} (k1 : post (some (.int x2)) (mk vi vl)) : wp X (d + 1) k_M_undo 0 0 45 [some (.ref 95), some (.int x1), some (.int x2)] [] (mk vi vl) post :=
  wr_iload_n (q := 2) (by decide +kernel) rfl rfl <|
  wr_ret (r := some (.int x2)) (Or.inr (Or.inl ⟨_, rfl, (by decide +kernel), (Or.inl rfl)⟩)) k1
theorem b_M_keep_0 {X : aX} {d : Nat} {post : aO} {vi : Nat → Nat → Int32} {vl : Nat → Nat → Int64} {x1 : Int32} (k1 : CallOk X d 0 0 k_M_in [.long x1.toInt64, .long (0 : Int64), .long (2 : Int64)] (mk vi vl) (fun r N' => wp X (d + 1) k_M_keep 0 0 9 [some (.ref 95), some (.int x1)] (pR r []) N' post)) : wp X (d + 1) k_M_keep 0 0 0 [some (.ref 95), some (.int x1)] [] (mk vi vl) post :=
  wr_iload_n (q := 1) (by decide +kernel) rfl rfl <|
  wr_i2l (by decide +kernel) <|
  wr_lconst (n := 0) (v := (0 : Int64)) (by decide +kernel) (by decide) <|
  wr_ldc2 (i := 154) (v := (2 : Int64)) (by decide +kernel) lj_M_154 <|
  wr_invS (mid2 := 118) (idx := 59) (b1 := 0) (b2 := 0) (c1 := 0) (c2 := 0) (as := [.long x1.toInt64, .long (0 : Int64), .long (2 : Int64)]) (st := []) pl_118 rfl (Nat.le_of_ble_eq_true rfl) rfl rfl lm_M_59 it_118 (by decide +kernel) k1
theorem b_M_keep_9 {X : aX} {d : Nat} {post : aO} {vi : Nat → Nat → Int32} {vl : Nat → Nat → Int64} {x1 y0 : Int32} (k1 : ¬ y0 = 0 → wp X (d + 1) k_M_keep 0 0 14 [some (.ref 95), some (.int x1)] [] (mk vi vl) post) (k2 : y0 = 0 → wp X (d + 1) k_M_keep 0 0 12 [some (.ref 95), some (.int x1)] [] (mk vi vl) post) : wp X (d + 1) k_M_keep 0 0 9 [some (.ref 95), some (.int x1)] [.int y0] (mk vi vl) post :=
  wr_if_ne (off := 5) (t := 14) (by decide +kernel) (by decide) k1 k2
theorem b_M_keep_12 {X : aX} {d : Nat} {post : aO} {vi : Nat → Nat → Int32} {vl : Nat → Nat → Int64} {x1 : Int32} (k1 : post (some (.int (-1 : Int32))) (mk vi vl)) : wp X (d + 1) k_M_keep 0 0 12 [some (.ref 95), some (.int x1)] [] (mk vi vl) post :=
  wr_iconst (n := -1) (v := (-1 : Int32)) (by decide +kernel) (by decide) <|
  wr_ret (r := some (.int (-1 : Int32))) (Or.inr (Or.inl ⟨_, rfl, (by decide +kernel), (Or.inl rfl)⟩)) k1
theorem b_M_keep_14 {X : aX} {d : Nat} {post : aO} {vi : Nat → Nat → Int32} {vl : Nat → Nat → Int64} {x1 : Int32} (k1 : ¬ (vi 96 0) = 0 → wp X (d + 1) k_M_keep 0 0 26 [some (.ref 95), some (.int x1)] [] (mk vi vl) post) (k2 : (vi 96 0) = 0 → wp X (d + 1) k_M_keep 0 0 23 [some (.ref 95), some (.int x1)] [] (mk vi vl) post) : wp X (d + 1) k_M_keep 0 0 14 [some (.ref 95), some (.int x1)] [] (mk vi vl) post :=
  wr_aload_n (q := 0) (by decide +kernel) rfl rfl <|
  wr_getR2 (b := 96) (ci := 4) (k0 := 0) (idx := 7) lq_95 sq_95 (by decide) (by decide) lf_M_7 rfl vq_95_0 lq_96 (by decide +kernel) <|
  wr_iconst (n := 0) (v := (0 : Int32)) (by decide +kernel) (by decide) <|
  wr_iald lq_96 sq_96 (by unfold vp_in; decide) (by decide +kernel) <|
  wr_if_ne (off := 6) (t := 26) (by decide +kernel) (by decide) k1 k2
theorem b_M_keep_23 {X : aX} {d : Nat} {post : aO} {vi : Nat → Nat → Int32} {vl : Nat → Nat → Int64} {x1 : Int32} (k1 : post (some (.int (-4 : Int32))) (mk vi vl)) : wp X (d + 1) k_M_keep 0 0 23 [some (.ref 95), some (.int x1)] [] (mk vi vl) post :=
  wr_bipush (n := -4) (v := (-4 : Int32)) (by decide +kernel) (by decide) <|
  wr_ret (r := some (.int (-4 : Int32))) (Or.inr (Or.inl ⟨_, rfl, (by decide +kernel), (Or.inl rfl)⟩)) k1
theorem b_M_keep_26 {X : aX} {d : Nat} {post : aO} {vi : Nat → Nat → Int32} {vl : Nat → Nat → Int64} {x1 : Int32} (k1 : CallOk X d 0 0 k_M_copyAll [.ref 95, .int (0 : Int32), .int ((1476 : Int32) * (x1 + (1 : Int32))), .int (1476 : Int32)] (mk vi vl) (fun r N' => wp X (d + 1) k_M_keep 0 0 41 [some (.ref 95), some (.int x1)] (pR r []) N' post)) : wp X (d + 1) k_M_keep 0 0 26 [some (.ref 95), some (.int x1)] [] (mk vi vl) post :=
  wr_aload_n (q := 0) (by decide +kernel) rfl rfl <|
  wr_iconst (n := 0) (v := (0 : Int32)) (by decide +kernel) (by decide) <|
  wr_sipush (n := 1476) (v := (1476 : Int32)) (by decide +kernel) (by decide) <|
  wr_iload_n (q := 1) (by decide +kernel) rfl rfl <|
  wr_iconst (n := 1) (v := (1 : Int32)) (by decide +kernel) (by decide) <|
  wr_iadd (by decide +kernel) <|
  wr_imul (by decide +kernel) <|
  wr_sipush (n := 1476) (v := (1476 : Int32)) (by decide +kernel) (by decide) <|
  wr_invV (a := 95) (ci := 4) (mid2 := 141) (idx := 123) (b1 := 0) (b2 := 0) (c1 := 0) (c2 := 0) (as := [.int (0 : Int32), .int ((1476 : Int32) * (x1 + (1 : Int32))), .int (1476 : Int32)]) (st := []) pl_141 rfl (Nat.le_of_ble_eq_true rfl) rfl rfl lq_95 sq_95 (by decide) rfl lm_M_123 im_141 is_141 (by decide +kernel) k1
theorem b_M_keep_41 {X : aX} {d : Nat} {post : aO} {vi : Nat → Nat → Int32} {vl : Nat → Nat → Int64} {x1 : Int32} (q1 : vp_in x1 3) (k1 : ∀ w, w = up2 vi 97 x1.toNatClampNeg (vi 95 1) → wp X (d + 1) k_M_keep 0 0 51 [some (.ref 95), some (.int x1)] [] (mk w vl) post) : wp X (d + 1) k_M_keep 0 0 41 [some (.ref 95), some (.int x1)] [] (mk vi vl) post :=
  wr_aload_n (q := 0) (by decide +kernel) rfl rfl <|
  wr_getR2 (b := 97) (ci := 4) (k0 := 2) (idx := 13) lq_95 sq_95 (by decide) (by decide) lf_M_13 rfl vq_95_2 lq_97 (by decide +kernel) <|
  wr_iload_n (q := 1) (by decide +kernel) rfl rfl <|
  wr_aload_n (q := 0) (by decide +kernel) rfl rfl <|
  wr_getI (ci := 4) (k0 := 1) (idx := 127) lq_95 sq_95 (by decide) (by decide) lf_M_127 (Or.inl rfl) (by decide +kernel) <|
  wr_iast lq_97 sq_97 q1 (by decide +kernel) <|
  k1 _ rfl
theorem b_M_keep_51 {X : aX} {d : Nat} {post : aO} {vi : Nat → Nat → Int32} {vl : Nat → Nat → Int64} {x1 : Int32} (k1 : post (some (.int (vi 95 1))) (mk vi vl)) : wp X (d + 1) k_M_keep 0 0 51 [some (.ref 95), some (.int x1)] [] (mk vi vl) post :=
  wr_aload_n (q := 0) (by decide +kernel) rfl rfl <|
  wr_getI (ci := 4) (k0 := 1) (idx := 127) lq_95 sq_95 (by decide) (by decide) lf_M_127 (Or.inl rfl) (by decide +kernel) <|
  wr_ret (r := some (.int (vi 95 1))) (Or.inr (Or.inl ⟨_, rfl, (by decide +kernel), (Or.inl rfl)⟩)) k1
theorem b_M_on_0 {X : aX} {d : Nat} {post : aO} {vi : Nat → Nat → Int32} {vl : Nat → Nat → Int64} {x1 : Int32} (k1 : CallOk X d 0 0 k_M_in [.long x1.toInt64, .long (0 : Int64), .long (2 : Int64)] (mk vi vl) (fun r N' => wp X (d + 1) k_M_on 0 0 9 [some (.ref 95), some (.int x1)] (pR r []) N' post)) : wp X (d + 1) k_M_on 0 0 0 [some (.ref 95), some (.int x1)] [] (mk vi vl) post :=
  wr_iload_n (q := 1) (by decide +kernel) rfl rfl <|
  wr_i2l (by decide +kernel) <|
  wr_lconst (n := 0) (v := (0 : Int64)) (by decide +kernel) (by decide) <|
  wr_ldc2 (i := 154) (v := (2 : Int64)) (by decide +kernel) lj_M_154 <|
  wr_invS (mid2 := 118) (idx := 59) (b1 := 0) (b2 := 0) (c1 := 0) (c2 := 0) (as := [.long x1.toInt64, .long (0 : Int64), .long (2 : Int64)]) (st := []) pl_118 rfl (Nat.le_of_ble_eq_true rfl) rfl rfl lm_M_59 it_118 (by decide +kernel) k1
theorem b_M_on_9 {X : aX} {d : Nat} {post : aO} {vi : Nat → Nat → Int32} {vl : Nat → Nat → Int64} {x1 y0 : Int32} (k1 : ¬ y0 = 0 → wp X (d + 1) k_M_on 0 0 14 [some (.ref 95), some (.int x1)] [] (mk vi vl) post) (k2 : y0 = 0 → wp X (d + 1) k_M_on 0 0 12 [some (.ref 95), some (.int x1)] [] (mk vi vl) post) : wp X (d + 1) k_M_on 0 0 9 [some (.ref 95), some (.int x1)] [.int y0] (mk vi vl) post :=
  wr_if_ne (off := 5) (t := 14) (by decide +kernel) (by decide) k1 k2
theorem b_M_on_12 {X : aX} {d : Nat} {post : aO} {vi : Nat → Nat → Int32} {vl : Nat → Nat → Int64} {x1 : Int32} (k1 : post (some (.int (-1 : Int32))) (mk vi vl)) : wp X (d + 1) k_M_on 0 0 12 [some (.ref 95), some (.int x1)] [] (mk vi vl) post :=
  wr_iconst (n := -1) (v := (-1 : Int32)) (by decide +kernel) (by decide) <|
  wr_ret (r := some (.int (-1 : Int32))) (Or.inr (Or.inl ⟨_, rfl, (by decide +kernel), (Or.inl rfl)⟩)) k1
theorem b_M_on_14 {X : aX} {d : Nat} {post : aO} {vi : Nat → Nat → Int32} {vl : Nat → Nat → Int64} {x1 : Int32} (q1 : vp_in x1 3) (k1 : 0 ≤ (vi 97 x1.toNatClampNeg) → wp X (d + 1) k_M_on 0 0 29 [some (.ref 95), some (.int x1)] [] (mk vi vl) post) (k2 : ¬ 0 ≤ (vi 97 x1.toNatClampNeg) → wp X (d + 1) k_M_on 0 0 23 [some (.ref 95), some (.int x1)] [] (mk vi vl) post) : wp X (d + 1) k_M_on 0 0 14 [some (.ref 95), some (.int x1)] [] (mk vi vl) post :=
  wr_aload_n (q := 0) (by decide +kernel) rfl rfl <|
  wr_getR2 (b := 97) (ci := 4) (k0 := 2) (idx := 13) lq_95 sq_95 (by decide) (by decide) lf_M_13 rfl vq_95_2 lq_97 (by decide +kernel) <|
  wr_iload_n (q := 1) (by decide +kernel) rfl rfl <|
  wr_iald lq_97 sq_97 q1 (by decide +kernel) <|
  wr_if_ge (off := 9) (t := 29) (by decide +kernel) (by decide) k1 k2
theorem b_M_on_23 {X : aX} {d : Nat} {post : aO} {vi : Nat → Nat → Int32} {vl : Nat → Nat → Int64} {x1 : Int32} (k1 : CallOk X d 0 0 k_M_found [.ref 95, .int (1 : Int32)] (mk vi vl) (fun r N' => wp X (d + 1) k_M_on 0 0 28 [some (.ref 95), some (.int x1)] (pR r []) N' post)) : wp X (d + 1) k_M_on 0 0 23 [some (.ref 95), some (.int x1)] [] (mk vi vl) post :=
  wr_aload_n (q := 0) (by decide +kernel) rfl rfl <|
  wr_iconst (n := 1) (v := (1 : Int32)) (by decide +kernel) (by decide) <|
  wr_invV (a := 95) (ci := 4) (mid2 := 119) (idx := 69) (b1 := 0) (b2 := 0) (c1 := 0) (c2 := 0) (as := [.int (1 : Int32)]) (st := []) pl_119 rfl (Nat.le_of_ble_eq_true rfl) rfl rfl lq_95 sq_95 (by decide) rfl lm_M_69 im_119 is_119 (by decide +kernel) k1
theorem b_M_on_28 {X : aX} {d : Nat} {post : aO} {vi : Nat → Nat → Int32} {vl : Nat → Nat → Int64} {x1 y0 : Int32} (k1 : post (some (.int y0)) (mk vi vl)) : wp X (d + 1) k_M_on 0 0 28 [some (.ref 95), some (.int x1)] [.int y0] (mk vi vl) post :=
  wr_ret (r := some (.int y0)) (Or.inr (Or.inl ⟨_, rfl, (by decide +kernel), (Or.inl rfl)⟩)) k1
theorem b_M_on_29 {X : aX} {d : Nat} {post : aO} {vi : Nat → Nat → Int32} {vl : Nat → Nat → Int64} {x1 : Int32} (k1 : CallOk X d 0 0 k_M_copyAll [.ref 95, .int ((1476 : Int32) * (x1 + (1 : Int32))), .int (0 : Int32), .int (1476 : Int32)] (mk vi vl) (fun r N' => wp X (d + 1) k_M_on 0 0 44 [some (.ref 95), some (.int x1)] (pR r []) N' post)) : wp X (d + 1) k_M_on 0 0 29 [some (.ref 95), some (.int x1)] [] (mk vi vl) post :=
  wr_aload_n (q := 0) (by decide +kernel) rfl rfl <|
  wr_sipush (n := 1476) (v := (1476 : Int32)) (by decide +kernel) (by decide) <|
  wr_iload_n (q := 1) (by decide +kernel) rfl rfl <|
  wr_iconst (n := 1) (v := (1 : Int32)) (by decide +kernel) (by decide) <|
  wr_iadd (by decide +kernel) <|
  wr_imul (by decide +kernel) <|
  wr_iconst (n := 0) (v := (0 : Int32)) (by decide +kernel) (by decide) <|
  wr_sipush (n := 1476) (v := (1476 : Int32)) (by decide +kernel) (by decide) <|
  wr_invV (a := 95) (ci := 4) (mid2 := 141) (idx := 123) (b1 := 0) (b2 := 0) (c1 := 0) (c2 := 0) (as := [.int ((1476 : Int32) * (x1 + (1 : Int32))), .int (0 : Int32), .int (1476 : Int32)]) (st := []) pl_141 rfl (Nat.le_of_ble_eq_true rfl) rfl rfl lq_95 sq_95 (by decide) rfl lm_M_123 im_141 is_141 (by decide +kernel) k1
theorem b_M_on_44 {X : aX} {d : Nat} {post : aO} {vi : Nat → Nat → Int32} {vl : Nat → Nat → Int64} {x1 : Int32} (q1 : vp_in x1 3) (k1 : ∀ w, w = up2 vi 95 1 (vi 97 x1.toNatClampNeg) → wp X (d + 1) k_M_on 0 0 54 [some (.ref 95), some (.int x1)] [] (mk w vl) post) : wp X (d + 1) k_M_on 0 0 44 [some (.ref 95), some (.int x1)] [] (mk vi vl) post :=
  wr_aload_n (q := 0) (by decide +kernel) rfl rfl <|
  wr_aload_n (q := 0) (by decide +kernel) rfl rfl <|
  wr_getR2 (b := 97) (ci := 4) (k0 := 2) (idx := 13) lq_95 sq_95 (by decide) (by decide) lf_M_13 rfl vq_95_2 lq_97 (by decide +kernel) <|
  wr_iload_n (q := 1) (by decide +kernel) rfl rfl <|
  wr_iald lq_97 sq_97 q1 (by decide +kernel) <|
  wr_putI (ci := 4) (k0 := 1) (idx := 127) lq_95 sq_95 (by decide) (by decide) lf_M_127 rfl (by decide +kernel) <|
  k1 _ rfl
theorem b_M_on_54 {X : aX} {d : Nat} {post : aO} {vi : Nat → Nat → Int32} {vl : Nat → Nat → Int64} {x1 : Int32} (k1 : post (some (.int (vi 95 1))) (mk vi vl)) : wp X (d + 1) k_M_on 0 0 54 [some (.ref 95), some (.int x1)] [] (mk vi vl) post :=
  wr_aload_n (q := 0) (by decide +kernel) rfl rfl <|
  wr_getI (ci := 4) (k0 := 1) (idx := 127) lq_95 sq_95 (by decide) (by decide) lf_M_127 (Or.inl rfl) (by decide +kernel) <|
  wr_ret (r := some (.int (vi 95 1))) (Or.inr (Or.inl ⟨_, rfl, (by decide +kernel), (Or.inl rfl)⟩)) k1
theorem b_M_happens_0 {X : aX} {d : Nat} {post : aO} {vi : Nat → Nat → Int32} {vl : Nat → Nat → Int64} {x1 : Int32} (k1 : CallOk X d 0 0 k_M_isTold [.int x1] (mk vi vl) (fun r N' => wp X (d + 1) k_M_happens 0 0 4 [some (.ref 95), some (.int x1)] (pR r []) N' post)) : wp X (d + 1) k_M_happens 0 0 0 [some (.ref 95), some (.int x1)] [] (mk vi vl) post :=
  wr_iload_n (q := 1) (by decide +kernel) rfl rfl <|
  wr_invS (mid2 := 157) (idx := 168) (b1 := 0) (b2 := 0) (c1 := 0) (c2 := 0) (as := [.int x1]) (st := []) pl_157 rfl (Nat.le_of_ble_eq_true rfl) rfl rfl lm_M_168 it_157 (by decide +kernel) k1
theorem b_M_happens_4 {X : aX} {d : Nat} {post : aO} {vi : Nat → Nat → Int32} {vl : Nat → Nat → Int64} {x1 y0 : Int32} (k1 : ¬ y0 = 0 → wp X (d + 1) k_M_happens 0 0 9 [some (.ref 95), some (.int x1)] [] (mk vi vl) post) (k2 : y0 = 0 → wp X (d + 1) k_M_happens 0 0 7 [some (.ref 95), some (.int x1)] [] (mk vi vl) post) : wp X (d + 1) k_M_happens 0 0 4 [some (.ref 95), some (.int x1)] [.int y0] (mk vi vl) post :=
  wr_if_ne (off := 5) (t := 9) (by decide +kernel) (by decide) k1 k2
theorem b_M_happens_7 {X : aX} {d : Nat} {post : aO} {vi : Nat → Nat → Int32} {vl : Nat → Nat → Int64} {x1 : Int32} (k1 : post (some (.int (-1 : Int32))) (mk vi vl)) : wp X (d + 1) k_M_happens 0 0 7 [some (.ref 95), some (.int x1)] [] (mk vi vl) post :=
  wr_iconst (n := -1) (v := (-1 : Int32)) (by decide +kernel) (by decide) <|
  wr_ret (r := some (.int (-1 : Int32))) (Or.inr (Or.inl ⟨_, rfl, (by decide +kernel), (Or.inl rfl)⟩)) k1
theorem b_M_happens_9 {X : aX} {d : Nat} {post : aO} {vi : Nat → Nat → Int32} {vl : Nat → Nat → Int64} {x1 : Int32} (k1 : CallOk X d 0 0 k_M_plays [.ref 95] (mk vi vl) (fun r N' => wp X (d + 1) k_M_happens 0 0 13 [some (.ref 95), some (.int x1)] (pR r []) N' post)) : wp X (d + 1) k_M_happens 0 0 9 [some (.ref 95), some (.int x1)] [] (mk vi vl) post :=
  wr_aload_n (q := 0) (by decide +kernel) rfl rfl <|
  wr_invV (a := 95) (ci := 4) (mid2 := 144) (idx := 145) (b1 := 0) (b2 := 0) (c1 := 0) (c2 := 0) (as := []) (st := []) pl_144 rfl (Nat.le_of_ble_eq_true rfl) rfl rfl lq_95 sq_95 (by decide) rfl lm_M_145 im_144 is_144 (by decide +kernel) k1
theorem b_M_happens_13 {X : aX} {d : Nat} {post : aO} {vi : Nat → Nat → Int32} {vl : Nat → Nat → Int64} {x1 : Int32} (k1 : CallOk X d 0 0 k_M_yearsOf [.ref 95, .int x1] (mk vi vl) (fun r N' => wp X (d + 1) k_M_happens 0 0 19 [some (.ref 95), some (.int x1)] (pR r [.ref 95]) N' post)) : wp X (d + 1) k_M_happens 0 0 13 [some (.ref 95), some (.int x1)] [] (mk vi vl) post :=
  wr_aload_n (q := 0) (by decide +kernel) rfl rfl <|
  wr_aload_n (q := 0) (by decide +kernel) rfl rfl <|
  wr_iload_n (q := 1) (by decide +kernel) rfl rfl <|
  wr_invV (a := 95) (ci := 4) (mid2 := 152) (idx := 139) (b1 := 0) (b2 := 0) (c1 := 0) (c2 := 0) (as := [.int x1]) (st := [.ref 95]) pl_152 rfl (Nat.le_of_ble_eq_true rfl) rfl rfl lq_95 sq_95 (by decide) rfl lm_M_139 im_152 is_152 (by decide +kernel) k1
theorem b_M_happens_19 {X : aX} {d : Nat} {post : aO} {vi : Nat → Nat → Int32} {vl : Nat → Nat → Int64} {x1 y1 : Int32} (k1 : CallOk X d 0 0 k_M_yearsOf [.ref 95, .int x1] (mk vi vl) (fun r N' => wp X (d + 1) k_M_happens 0 0 24 [some (.ref 95), some (.int x1)] (pR r [.int y1, .ref 95]) N' post)) : wp X (d + 1) k_M_happens 0 0 19 [some (.ref 95), some (.int x1)] [.int y1, .ref 95] (mk vi vl) post :=
  wr_aload_n (q := 0) (by decide +kernel) rfl rfl <|
  wr_iload_n (q := 1) (by decide +kernel) rfl rfl <|
  wr_invV (a := 95) (ci := 4) (mid2 := 152) (idx := 139) (b1 := 0) (b2 := 0) (c1 := 0) (c2 := 0) (as := [.int x1]) (st := [.int y1, .ref 95]) pl_152 rfl (Nat.le_of_ble_eq_true rfl) rfl rfl lq_95 sq_95 (by decide) rfl lm_M_139 im_152 is_152 (by decide +kernel) k1
theorem b_M_happens_24 {X : aX} {d : Nat} {post : aO} {vi : Nat → Nat → Int32} {vl : Nat → Nat → Int64} {x1 y1 y2 : Int32} (k1 : CallOk X d 0 0 k_M_ones [.int y2] (mk vi vl) (fun r N' => wp X (d + 1) k_M_happens 0 0 27 [some (.ref 95), some (.int x1)] (pR r [.int y1, .ref 95]) N' post)) : wp X (d + 1) k_M_happens 0 0 24 [some (.ref 95), some (.int x1)] [.int y2, .int y1, .ref 95] (mk vi vl) post :=
  wr_invS (mid2 := 153) (idx := 142) (b1 := 0) (b2 := 0) (c1 := 0) (c2 := 0) (as := [.int y2]) (st := [.int y1, .ref 95]) pl_153 rfl (Nat.le_of_ble_eq_true rfl) rfl rfl lm_M_142 it_153 (by decide +kernel) k1
theorem b_M_happens_27 {X : aX} {d : Nat} {post : aO} {vi : Nat → Nat → Int32} {vl : Nat → Nat → Int64} {x1 y1 y2 : Int32} (k1 : CallOk X d 0 0 k_M_tells [.ref 95, .int y1, .int y2] (mk vi vl) (fun r N' => wp X (d + 1) k_M_happens 0 0 30 [some (.ref 95), some (.int x1)] (pR r []) N' post)) : wp X (d + 1) k_M_happens 0 0 27 [some (.ref 95), some (.int x1)] [.int y2, .int y1, .ref 95] (mk vi vl) post :=
  wr_invV (a := 95) (ci := 4) (mid2 := 123) (idx := 81) (b1 := 0) (b2 := 0) (c1 := 0) (c2 := 0) (as := [.int y1, .int y2]) (st := []) pl_123 rfl (Nat.le_of_ble_eq_true rfl) rfl rfl lq_95 sq_95 (by decide) rfl lm_M_81 im_123 is_123 (by decide +kernel) k1
theorem b_M_happens_30 {X : aX} {d : Nat} {post : aO} {vi : Nat → Nat → Int32} {vl : Nat → Nat → Int64} {x1 y0 : Int32} (k1 : post (some (.int y0)) (mk vi vl)) : wp X (d + 1) k_M_happens 0 0 30 [some (.ref 95), some (.int x1)] [.int y0] (mk vi vl) post :=
  wr_ret (r := some (.int y0)) (Or.inr (Or.inl ⟨_, rfl, (by decide +kernel), (Or.inl rfl)⟩)) k1
theorem b_M_by_0 {X : aX} {d : Nat} {post : aO} {vi : Nat → Nat → Int32} {vl : Nat → Nat → Int64} {x1 : Int32} (k1 : CallOk X d 0 0 k_M_isYear [.ref 95, .int x1] (mk vi vl) (fun r N' => wp X (d + 1) k_M_by 0 0 5 [some (.ref 95), some (.int x1)] (pR r []) N' post)) : wp X (d + 1) k_M_by 0 0 0 [some (.ref 95), some (.int x1)] [] (mk vi vl) post :=
  wr_aload_n (q := 0) (by decide +kernel) rfl rfl <|
  wr_iload_n (q := 1) (by decide +kernel) rfl rfl <|
  wr_invV (a := 95) (ci := 4) (mid2 := 143) (idx := 151) (b1 := 0) (b2 := 0) (c1 := 0) (c2 := 0) (as := [.int x1]) (st := []) pl_143 rfl (Nat.le_of_ble_eq_true rfl) rfl rfl lq_95 sq_95 (by decide) rfl lm_M_151 im_143 is_143 (by decide +kernel) k1
theorem b_M_by_5 {X : aX} {d : Nat} {post : aO} {vi : Nat → Nat → Int32} {vl : Nat → Nat → Int64} {x1 y0 : Int32} (k1 : ¬ y0 = 0 → wp X (d + 1) k_M_by 0 0 10 [some (.ref 95), some (.int x1)] [] (mk vi vl) post) (k2 : y0 = 0 → wp X (d + 1) k_M_by 0 0 8 [some (.ref 95), some (.int x1)] [] (mk vi vl) post) : wp X (d + 1) k_M_by 0 0 5 [some (.ref 95), some (.int x1)] [.int y0] (mk vi vl) post :=
  wr_if_ne (off := 5) (t := 10) (by decide +kernel) (by decide) k1 k2
theorem b_M_by_8 {X : aX} {d : Nat} {post : aO} {vi : Nat → Nat → Int32} {vl : Nat → Nat → Int64} {x1 : Int32} (k1 : post (some (.int (-1 : Int32))) (mk vi vl)) : wp X (d + 1) k_M_by 0 0 8 [some (.ref 95), some (.int x1)] [] (mk vi vl) post :=
  wr_iconst (n := -1) (v := (-1 : Int32)) (by decide +kernel) (by decide) <|
  wr_ret (r := some (.int (-1 : Int32))) (Or.inr (Or.inl ⟨_, rfl, (by decide +kernel), (Or.inl rfl)⟩)) k1
theorem b_M_by_10 {X : aX} {d : Nat} {post : aO} {vi : Nat → Nat → Int32} {vl : Nat → Nat → Int64} {x1 : Int32} (k1 : CallOk X d 0 0 k_M_plays [.ref 95] (mk vi vl) (fun r N' => wp X (d + 1) k_M_by 0 0 14 [some (.ref 95), some (.int x1)] (pR r []) N' post)) : wp X (d + 1) k_M_by 0 0 10 [some (.ref 95), some (.int x1)] [] (mk vi vl) post :=
  wr_aload_n (q := 0) (by decide +kernel) rfl rfl <|
  wr_invV (a := 95) (ci := 4) (mid2 := 144) (idx := 145) (b1 := 0) (b2 := 0) (c1 := 0) (c2 := 0) (as := []) (st := []) pl_144 rfl (Nat.le_of_ble_eq_true rfl) rfl rfl lq_95 sq_95 (by decide) rfl lm_M_145 im_144 is_144 (by decide +kernel) k1
theorem b_M_by_14 {X : aX} {d : Nat} {post : aO} {vi : Nat → Nat → Int32} {vl : Nat → Nat → Int64} {x1 : Int32} (q1 : vp_in x1 5) (k1 : post (some (.int (vi 105 x1.toNatClampNeg))) (mk vi vl)) : wp X (d + 1) k_M_by 0 0 14 [some (.ref 95), some (.int x1)] [] (mk vi vl) post :=
  wr_aload_n (q := 0) (by decide +kernel) rfl rfl <|
  wr_getR2 (b := 105) (ci := 4) (k0 := 15) (idx := 41) lq_95 sq_95 (by decide) (by decide) lf_M_41 rfl vq_95_15 lq_105 (by decide +kernel) <|
  wr_iload_n (q := 1) (by decide +kernel) rfl rfl <|
  wr_iald lq_105 sq_105 q1 (by decide +kernel) <|
  wr_ret (r := some (.int (vi 105 x1.toNatClampNeg))) (Or.inr (Or.inl ⟨_, rfl, (by decide +kernel), (Or.inl rfl)⟩)) k1
theorem b_M_broken_0 {X : aX} {d : Nat} {post : aO} {vi : Nat → Nat → Int32} {vl : Nat → Nat → Int64}  (k1 : CallOk X d 0 0 k_M_brokenNow [.ref 95] (mk vi vl) (fun r N' => wp X (d + 1) k_M_broken 0 0 4 [some (.ref 95), none, none, none, none] (pR r []) N' post)) : wp X (d + 1) k_M_broken 0 0 0 [some (.ref 95), none, none, none, none] [] (mk vi vl) post :=
  wr_aload_n (q := 0) (by decide +kernel) rfl rfl <|
  wr_invV (a := 95) (ci := 4) (mid2 := 161) (idx := 177) (b1 := 0) (b2 := 0) (c1 := 0) (c2 := 0) (as := []) (st := []) pl_161 rfl (Nat.le_of_ble_eq_true rfl) rfl rfl lq_95 sq_95 (by decide) rfl lm_M_177 im_161 is_161 (by decide +kernel) k1
theorem b_M_broken_4 {X : aX} {d : Nat} {post : aO} {vi : Nat → Nat → Int32} {vl : Nat → Nat → Int64} {o1 o2 o3 o4 : Option Value} {y0 : Int32} (k1 : wp X (d + 1) k_M_broken 0 0 17 [some (.ref 95), some (.int y0), some (.int (-9 : Int32)), some (.int ((vi 96 0) - (1 : Int32))), o4] [] (mk vi vl) post) : wp X (d + 1) k_M_broken 0 0 4 [some (.ref 95), o1, o2, o3, o4] [.int y0] (mk vi vl) post :=
  wr_istore_n (q := 1) (by decide +kernel) rfl (by decide) <|
  wr_bipush (n := -9) (v := (-9 : Int32)) (by decide +kernel) (by decide) <|
  wr_istore_n (q := 2) (by decide +kernel) rfl (by decide) <|
  wr_aload_n (q := 0) (by decide +kernel) rfl rfl <|
  wr_getR2 (b := 96) (ci := 4) (k0 := 0) (idx := 7) lq_95 sq_95 (by decide) (by decide) lf_M_7 rfl vq_95_0 lq_96 (by decide +kernel) <|
  wr_iconst (n := 0) (v := (0 : Int32)) (by decide +kernel) (by decide) <|
  wr_iald lq_96 sq_96 (by unfold vp_in; decide) (by decide +kernel) <|
  wr_iconst (n := 1) (v := (1 : Int32)) (by decide +kernel) (by decide) <|
  wr_isub (by decide +kernel) <|
  wr_istore_n (q := 3) (by decide +kernel) rfl (by decide) <|
  k1
theorem b_M_broken_17 {X : aX} {d : Nat} {post : aO} {vi : Nat → Nat → Int32} {vl : Nat → Nat → Int64} {x1 x2 x3 : Int32} {o4 : Option Value} (k1 : x3 < 0 → wp X (d + 1) k_M_broken 0 0 100 [some (.ref 95), some (.int x1), some (.int x2), some (.int x3), o4] [] (mk vi vl) post) (k2 : ¬ x3 < 0 → wp X (d + 1) k_M_broken 0 0 21 [some (.ref 95), some (.int x1), some (.int x2), some (.int x3), o4] [] (mk vi vl) post) : wp X (d + 1) k_M_broken 0 0 17 [some (.ref 95), some (.int x1), some (.int x2), some (.int x3), o4] [] (mk vi vl) post :=
  wr_iload_n (q := 3) (by decide +kernel) rfl rfl <|
  wr_if_lt (off := 82) (t := 100) (by decide +kernel) (by decide) k1 k2
theorem b_M_broken_21 {X : aX} {d : Nat} {post : aO} {vi : Nat → Nat → Int32} {vl : Nat → Nat → Int64} {x1 x2 x3 : Int32} {o4 : Option Value} (k1 : wp X (d + 1) k_M_broken 0 0 24 [some (.ref 95), some (.int x1), some (.int x2), some (.int x3), some (.int (0 : Int32))] [] (mk vi vl) post) : wp X (d + 1) k_M_broken 0 0 21 [some (.ref 95), some (.int x1), some (.int x2), some (.int x3), o4] [] (mk vi vl) post :=
  wr_iconst (n := 0) (v := (0 : Int32)) (by decide +kernel) (by decide) <|
  wr_istore (i := 4) (by decide +kernel) (by decide) <|
  k1
theorem b_M_broken_24 {X : aX} {d : Nat} {post : aO} {vi : Nat → Nat → Int32} {vl : Nat → Nat → Int64} {x1 x2 x3 x4 : Int32} (k1 : (vi 96 1) ≤ x4 → wp X (d + 1) k_M_broken 0 0 94 [some (.ref 95), some (.int x1), some (.int x2), some (.int x3), some (.int x4)] [] (mk vi vl) post) (k2 : ¬ (vi 96 1) ≤ x4 → wp X (d + 1) k_M_broken 0 0 35 [some (.ref 95), some (.int x1), some (.int x2), some (.int x3), some (.int x4)] [] (mk vi vl) post) : wp X (d + 1) k_M_broken 0 0 24 [some (.ref 95), some (.int x1), some (.int x2), some (.int x3), some (.int x4)] [] (mk vi vl) post :=
  wr_iload (i := 4) (by decide +kernel) rfl <|
  wr_aload_n (q := 0) (by decide +kernel) rfl rfl <|
  wr_getR2 (b := 96) (ci := 4) (k0 := 0) (idx := 7) lq_95 sq_95 (by decide) (by decide) lf_M_7 rfl vq_95_0 lq_96 (by decide +kernel) <|
  wr_iconst (n := 1) (v := (1 : Int32)) (by decide +kernel) (by decide) <|
  wr_iald lq_96 sq_96 (by unfold vp_in; decide) (by decide +kernel) <|
  wr_icmp_ge (off := 62) (t := 94) (by decide +kernel) (by decide) k1 k2
theorem b_M_broken_35 {X : aX} {d : Nat} {post : aO} {vi : Nat → Nat → Int32} {vl : Nat → Nat → Int64} {x1 x2 x3 x4 : Int32} (k1 : CallOk X d 0 0 k_M_has [.int x1, .int x4] (mk vi vl) (fun r N' => wp X (d + 1) k_M_broken 0 0 41 [some (.ref 95), some (.int x1), some (.int x2), some (.int x3), some (.int x4)] (pR r []) N' post)) : wp X (d + 1) k_M_broken 0 0 35 [some (.ref 95), some (.int x1), some (.int x2), some (.int x3), some (.int x4)] [] (mk vi vl) post :=
  wr_iload_n (q := 1) (by decide +kernel) rfl rfl <|
  wr_iload (i := 4) (by decide +kernel) rfl <|
  wr_invS (mid2 := 169) (idx := 181) (b1 := 0) (b2 := 0) (c1 := 0) (c2 := 0) (as := [.int x1, .int x4]) (st := []) pl_169 rfl (Nat.le_of_ble_eq_true rfl) rfl rfl lm_M_181 it_169 (by decide +kernel) k1
theorem b_M_broken_41 {X : aX} {d : Nat} {post : aO} {vi : Nat → Nat → Int32} {vl : Nat → Nat → Int64} {x1 x2 x3 x4 y0 : Int32} (k1 : y0 = 0 → wp X (d + 1) k_M_broken 0 0 86 [some (.ref 95), some (.int x1), some (.int x2), some (.int x3), some (.int x4)] [] (mk vi vl) post) (k2 : ¬ y0 = 0 → wp X (d + 1) k_M_broken 0 0 44 [some (.ref 95), some (.int x1), some (.int x2), some (.int x3), some (.int x4)] [] (mk vi vl) post) : wp X (d + 1) k_M_broken 0 0 41 [some (.ref 95), some (.int x1), some (.int x2), some (.int x3), some (.int x4)] [.int y0] (mk vi vl) post :=
  wr_if_eq (off := 45) (t := 86) (by decide +kernel) (by decide) k1 k2
theorem b_M_broken_44 {X : aX} {d : Nat} {post : aO} {vi : Nat → Nat → Int32} {vl : Nat → Nat → Int64} {x1 x2 x3 x4 : Int32} (q1 : vp_in x3 5) (q2 : vp_in ((20 : Int32) + x4) 5976) (k1 : (vi 104 x3.toNatClampNeg) = (vi 96 ((20 : Int32) + x4).toNatClampNeg) → wp X (d + 1) k_M_broken 0 0 82 [some (.ref 95), some (.int x1), some (.int x2), some (.int x3), some (.int x4)] [] (mk vi vl) post) (k2 : ¬ (vi 104 x3.toNatClampNeg) = (vi 96 ((20 : Int32) + x4).toNatClampNeg) → wp X (d + 1) k_M_broken 0 0 63 [some (.ref 95), some (.int x1), some (.int x2), some (.int x3), some (.int x4)] [] (mk vi vl) post) : wp X (d + 1) k_M_broken 0 0 44 [some (.ref 95), some (.int x1), some (.int x2), some (.int x3), some (.int x4)] [] (mk vi vl) post :=
  wr_aload_n (q := 0) (by decide +kernel) rfl rfl <|
  wr_getR2 (b := 104) (ci := 4) (k0 := 14) (idx := 38) lq_95 sq_95 (by decide) (by decide) lf_M_38 rfl vq_95_14 lq_104 (by decide +kernel) <|
  wr_iload_n (q := 3) (by decide +kernel) rfl rfl <|
  wr_iald lq_104 sq_104 q1 (by decide +kernel) <|
  wr_aload_n (q := 0) (by decide +kernel) rfl rfl <|
  wr_getR2 (b := 96) (ci := 4) (k0 := 0) (idx := 7) lq_95 sq_95 (by decide) (by decide) lf_M_7 rfl vq_95_0 lq_96 (by decide +kernel) <|
  wr_bipush (n := 20) (v := (20 : Int32)) (by decide +kernel) (by decide) <|
  wr_iload (i := 4) (by decide +kernel) rfl <|
  wr_iadd (by decide +kernel) <|
  wr_iald lq_96 sq_96 q2 (by decide +kernel) <|
  wr_icmp_eq (off := 22) (t := 82) (by decide +kernel) (by decide) k1 k2
theorem b_M_broken_63 {X : aX} {d : Nat} {post : aO} {vi : Nat → Nat → Int32} {vl : Nat → Nat → Int64} {x1 x2 x3 x4 : Int32} (q1 : vp_in x3 5) (q2 : vp_in ((28 : Int32) + x4) 5976) (k1 : ¬ (vi 104 x3.toNatClampNeg) = (vi 96 ((28 : Int32) + x4).toNatClampNeg) → wp X (d + 1) k_M_broken 0 0 86 [some (.ref 95), some (.int x1), some (.int x2), some (.int x3), some (.int x4)] [] (mk vi vl) post) (k2 : (vi 104 x3.toNatClampNeg) = (vi 96 ((28 : Int32) + x4).toNatClampNeg) → wp X (d + 1) k_M_broken 0 0 82 [some (.ref 95), some (.int x1), some (.int x2), some (.int x3), some (.int x4)] [] (mk vi vl) post) : wp X (d + 1) k_M_broken 0 0 63 [some (.ref 95), some (.int x1), some (.int x2), some (.int x3), some (.int x4)] [] (mk vi vl) post :=
  wr_aload_n (q := 0) (by decide +kernel) rfl rfl <|
  wr_getR2 (b := 104) (ci := 4) (k0 := 14) (idx := 38) lq_95 sq_95 (by decide) (by decide) lf_M_38 rfl vq_95_14 lq_104 (by decide +kernel) <|
  wr_iload_n (q := 3) (by decide +kernel) rfl rfl <|
  wr_iald lq_104 sq_104 q1 (by decide +kernel) <|
  wr_aload_n (q := 0) (by decide +kernel) rfl rfl <|
  wr_getR2 (b := 96) (ci := 4) (k0 := 0) (idx := 7) lq_95 sq_95 (by decide) (by decide) lf_M_7 rfl vq_95_0 lq_96 (by decide +kernel) <|
  wr_bipush (n := 28) (v := (28 : Int32)) (by decide +kernel) (by decide) <|
  wr_iload (i := 4) (by decide +kernel) rfl <|
  wr_iadd (by decide +kernel) <|
  wr_iald lq_96 sq_96 q2 (by decide +kernel) <|
  wr_icmp_ne (off := 7) (t := 86) (by decide +kernel) (by decide) k1 k2
theorem b_M_broken_82 {X : aX} {d : Nat} {post : aO} {vi : Nat → Nat → Int32} {vl : Nat → Nat → Int64} {x1 x2 x3 x4 : Int32} (k1 : wp X (d + 1) k_M_broken 0 0 87 [some (.ref 95), some (.int x1), some (.int x2), some (.int x3), some (.int x4)] [.int x3] (mk vi vl) post) : wp X (d + 1) k_M_broken 0 0 82 [some (.ref 95), some (.int x1), some (.int x2), some (.int x3), some (.int x4)] [] (mk vi vl) post :=
  wr_iload_n (q := 3) (by decide +kernel) rfl rfl <|
  wr_goto (off := 4) (t := 87) (by decide +kernel) (by decide) k1
theorem b_M_broken_86 {X : aX} {d : Nat} {post : aO} {vi : Nat → Nat → Int32} {vl : Nat → Nat → Int64} {x1 x2 x3 x4 : Int32} (k1 : wp X (d + 1) k_M_broken 0 0 87 [some (.ref 95), some (.int x1), some (.int x2), some (.int x3), some (.int x4)] [.int x2] (mk vi vl) post) : wp X (d + 1) k_M_broken 0 0 86 [some (.ref 95), some (.int x1), some (.int x2), some (.int x3), some (.int x4)] [] (mk vi vl) post :=
  wr_iload_n (q := 2) (by decide +kernel) rfl rfl <|
  k1
theorem b_M_broken_87 {X : aX} {d : Nat} {post : aO} {vi : Nat → Nat → Int32} {vl : Nat → Nat → Int64} {x1 x2 x3 x4 y0 : Int32} (k1 : wp X (d + 1) k_M_broken 0 0 24 [some (.ref 95), some (.int x1), some (.int y0), some (.int x3), some (.int (x4 + (1 : Int32)))] [] (mk vi vl) post) : wp X (d + 1) k_M_broken 0 0 87 [some (.ref 95), some (.int x1), some (.int x2), some (.int x3), some (.int x4)] [.int y0] (mk vi vl) post :=
  wr_istore_n (q := 2) (by decide +kernel) rfl (by decide) <|
  wr_iinc (i := 4) (n := 1) (v := (1 : Int32)) (by decide +kernel) rfl (by decide) (by decide) <|
  wr_goto (off := -67) (t := 24) (by decide +kernel) (by decide) k1
theorem b_M_broken_94 {X : aX} {d : Nat} {post : aO} {vi : Nat → Nat → Int32} {vl : Nat → Nat → Int64} {x1 x2 x3 x4 : Int32} (k1 : wp X (d + 1) k_M_broken 0 0 17 [some (.ref 95), some (.int x1), some (.int x2), some (.int (x3 + (-1 : Int32))), some (.int x4)] [] (mk vi vl) post) : wp X (d + 1) k_M_broken 0 0 94 [some (.ref 95), some (.int x1), some (.int x2), some (.int x3), some (.int x4)] [] (mk vi vl) post :=
  wr_iinc (i := 3) (n := -1) (v := (-1 : Int32)) (by decide +kernel) rfl (by decide) (by decide) <|
  wr_goto (off := -80) (t := 17) (by decide +kernel) (by decide) k1
theorem b_M_broken_100 {X : aX} {d : Nat} {post : aO} {vi : Nat → Nat → Int32} {vl : Nat → Nat → Int64} {x1 x2 x3 : Int32} {o4 : Option Value} (k1 : CallOk X d 0 0 k_M_tells [.ref 95, .int x2, .int x1] (mk vi vl) (fun r N' => wp X (d + 1) k_M_broken 0 0 106 [some (.ref 95), some (.int x1), some (.int x2), some (.int x3), o4] (pR r []) N' post)) : wp X (d + 1) k_M_broken 0 0 100 [some (.ref 95), some (.int x1), some (.int x2), some (.int x3), o4] [] (mk vi vl) post :=
  wr_aload_n (q := 0) (by decide +kernel) rfl rfl <|
  wr_iload_n (q := 2) (by decide +kernel) rfl rfl <|
  wr_iload_n (q := 1) (by decide +kernel) rfl rfl <|
  wr_invV (a := 95) (ci := 4) (mid2 := 123) (idx := 81) (b1 := 0) (b2 := 0) (c1 := 0) (c2 := 0) (as := [.int x2, .int x1]) (st := []) pl_123 rfl (Nat.le_of_ble_eq_true rfl) rfl rfl lq_95 sq_95 (by decide) rfl lm_M_81 im_123 is_123 (by decide +kernel) k1
theorem b_M_broken_106 {X : aX} {d : Nat} {post : aO} {vi : Nat → Nat → Int32} {vl : Nat → Nat → Int64} {x1 x2 x3 y0 : Int32} {o4 : Option Value} (k1 : post (some (.int y0)) (mk vi vl)) : wp X (d + 1) k_M_broken 0 0 106 [some (.ref 95), some (.int x1), some (.int x2), some (.int x3), o4] [.int y0] (mk vi vl) post :=
  wr_ret (r := some (.int y0)) (Or.inr (Or.inl ⟨_, rfl, (by decide +kernel), (Or.inl rfl)⟩)) k1
theorem b_M_has_0 {X : aX} {d : Nat} {post : aO} {vi : Nat → Nat → Int32} {vl : Nat → Nat → Int64} {x0 x1 : Int32} (k1 : ¬ ((x0 >>> (x1 &&& 31)) &&& (1 : Int32)) = (1 : Int32) → wp X (d + 1) k_M_has 0 0 13 [some (.int x0), some (.int x1)] [] (mk vi vl) post) (k2 : ((x0 >>> (x1 &&& 31)) &&& (1 : Int32)) = (1 : Int32) → wp X (d + 1) k_M_has 0 0 9 [some (.int x0), some (.int x1)] [] (mk vi vl) post) : wp X (d + 1) k_M_has 0 0 0 [some (.int x0), some (.int x1)] [] (mk vi vl) post :=
  wr_iload_n (q := 0) (by decide +kernel) rfl rfl <|
  wr_iload_n (q := 1) (by decide +kernel) rfl rfl <|
  wr_ishr (by decide +kernel) <|
  wr_iconst (n := 1) (v := (1 : Int32)) (by decide +kernel) (by decide) <|
  wr_iand (by decide +kernel) <|
  wr_iconst (n := 1) (v := (1 : Int32)) (by decide +kernel) (by decide) <|
  wr_icmp_ne (off := 7) (t := 13) (by decide +kernel) (by decide) k1 k2
theorem b_M_has_9 {X : aX} {d : Nat} {post : aO} {vi : Nat → Nat → Int32} {vl : Nat → Nat → Int64} {x0 x1 : Int32} (k1 : wp X (d + 1) k_M_has 0 0 14 [some (.int x0), some (.int x1)] [.int (1 : Int32)] (mk vi vl) post) : wp X (d + 1) k_M_has 0 0 9 [some (.int x0), some (.int x1)] [] (mk vi vl) post :=
  wr_iconst (n := 1) (v := (1 : Int32)) (by decide +kernel) (by decide) <|
  wr_goto (off := 4) (t := 14) (by decide +kernel) (by decide) k1
theorem b_M_has_13 {X : aX} {d : Nat} {post : aO} {vi : Nat → Nat → Int32} {vl : Nat → Nat → Int64} {x0 x1 : Int32} (k1 : wp X (d + 1) k_M_has 0 0 14 [some (.int x0), some (.int x1)] [.int (0 : Int32)] (mk vi vl) post) : wp X (d + 1) k_M_has 0 0 13 [some (.int x0), some (.int x1)] [] (mk vi vl) post :=
  wr_iconst (n := 0) (v := (0 : Int32)) (by decide +kernel) (by decide) <|
  k1
theorem b_M_has_14 {X : aX} {d : Nat} {post : aO} {vi : Nat → Nat → Int32} {vl : Nat → Nat → Int64} {x0 x1 y0 : Int32} (q1 : y0 = 0 ∨ y0 = 1) (k1 : post (some (.int y0)) (mk vi vl)) : wp X (d + 1) k_M_has 0 0 14 [some (.int x0), some (.int x1)] [.int y0] (mk vi vl) post :=
  wr_ret (r := some (.int y0)) (Or.inr (Or.inl ⟨_, rfl, (by decide +kernel), (Or.inr ⟨rfl, q1⟩)⟩)) k1
theorem b_M_can_0 {X : aX} {d : Nat} {post : aO} {vi : Nat → Nat → Int32} {vl : Nat → Nat → Int64} {x1 : Int32} (k1 : CallOk X d 0 0 k_M_isYear [.ref 95, .int x1] (mk vi vl) (fun r N' => wp X (d + 1) k_M_can 0 0 5 [some (.ref 95), some (.int x1), none, none] (pR r []) N' post)) : wp X (d + 1) k_M_can 0 0 0 [some (.ref 95), some (.int x1), none, none] [] (mk vi vl) post :=
  wr_aload_n (q := 0) (by decide +kernel) rfl rfl <|
  wr_iload_n (q := 1) (by decide +kernel) rfl rfl <|
  wr_invV (a := 95) (ci := 4) (mid2 := 143) (idx := 151) (b1 := 0) (b2 := 0) (c1 := 0) (c2 := 0) (as := [.int x1]) (st := []) pl_143 rfl (Nat.le_of_ble_eq_true rfl) rfl rfl lq_95 sq_95 (by decide) rfl lm_M_151 im_143 is_143 (by decide +kernel) k1
theorem b_M_can_5 {X : aX} {d : Nat} {post : aO} {vi : Nat → Nat → Int32} {vl : Nat → Nat → Int64} {x1 y0 : Int32} {o2 o3 : Option Value} (k1 : ¬ y0 = 0 → wp X (d + 1) k_M_can 0 0 10 [some (.ref 95), some (.int x1), o2, o3] [] (mk vi vl) post) (k2 : y0 = 0 → wp X (d + 1) k_M_can 0 0 8 [some (.ref 95), some (.int x1), o2, o3] [] (mk vi vl) post) : wp X (d + 1) k_M_can 0 0 5 [some (.ref 95), some (.int x1), o2, o3] [.int y0] (mk vi vl) post :=
  wr_if_ne (off := 5) (t := 10) (by decide +kernel) (by decide) k1 k2
theorem b_M_can_8 {X : aX} {d : Nat} {post : aO} {vi : Nat → Nat → Int32} {vl : Nat → Nat → Int64} {x1 : Int32} {o2 o3 : Option Value} (k1 : post (some (.int (-1 : Int32))) (mk vi vl)) : wp X (d + 1) k_M_can 0 0 8 [some (.ref 95), some (.int x1), o2, o3] [] (mk vi vl) post :=
  wr_iconst (n := -1) (v := (-1 : Int32)) (by decide +kernel) (by decide) <|
  wr_ret (r := some (.int (-1 : Int32))) (Or.inr (Or.inl ⟨_, rfl, (by decide +kernel), (Or.inl rfl)⟩)) k1
theorem b_M_can_10 {X : aX} {d : Nat} {post : aO} {vi : Nat → Nat → Int32} {vl : Nat → Nat → Int64} {x1 : Int32} {o2 o3 : Option Value} (q1 : vp_in ((2 : Int32) + x1) 5976) (k1 : ¬ (vi 96 ((2 : Int32) + x1).toNatClampNeg) = (1 : Int32) → wp X (d + 1) k_M_can 0 0 25 [some (.ref 95), some (.int x1), o2, o3] [] (mk vi vl) post) (k2 : (vi 96 ((2 : Int32) + x1).toNatClampNeg) = (1 : Int32) → wp X (d + 1) k_M_can 0 0 22 [some (.ref 95), some (.int x1), o2, o3] [] (mk vi vl) post) : wp X (d + 1) k_M_can 0 0 10 [some (.ref 95), some (.int x1), o2, o3] [] (mk vi vl) post :=
  wr_aload_n (q := 0) (by decide +kernel) rfl rfl <|
  wr_getR2 (b := 96) (ci := 4) (k0 := 0) (idx := 7) lq_95 sq_95 (by decide) (by decide) lf_M_7 rfl vq_95_0 lq_96 (by decide +kernel) <|
  wr_iconst (n := 2) (v := (2 : Int32)) (by decide +kernel) (by decide) <|
  wr_iload_n (q := 1) (by decide +kernel) rfl rfl <|
  wr_iadd (by decide +kernel) <|
  wr_iald lq_96 sq_96 q1 (by decide +kernel) <|
  wr_iconst (n := 1) (v := (1 : Int32)) (by decide +kernel) (by decide) <|
  wr_icmp_ne (off := 6) (t := 25) (by decide +kernel) (by decide) k1 k2
theorem b_M_can_22 {X : aX} {d : Nat} {post : aO} {vi : Nat → Nat → Int32} {vl : Nat → Nat → Int64} {x1 : Int32} {o2 o3 : Option Value} (k1 : post (some (.int (-4 : Int32))) (mk vi vl)) : wp X (d + 1) k_M_can 0 0 22 [some (.ref 95), some (.int x1), o2, o3] [] (mk vi vl) post :=
  wr_bipush (n := -4) (v := (-4 : Int32)) (by decide +kernel) (by decide) <|
  wr_ret (r := some (.int (-4 : Int32))) (Or.inr (Or.inl ⟨_, rfl, (by decide +kernel), (Or.inl rfl)⟩)) k1
theorem b_M_can_25 {X : aX} {d : Nat} {post : aO} {vi : Nat → Nat → Int32} {vl : Nat → Nat → Int64} {x1 : Int32} {o2 o3 : Option Value} (k1 : CallOk X d 0 0 k_M_lays [.ref 95] (mk vi vl) (fun r N' => wp X (d + 1) k_M_can 0 0 31 [some (.ref 95), some (.int x1), some (.int (0 : Int32)), o3] (pR r []) N' post)) : wp X (d + 1) k_M_can 0 0 25 [some (.ref 95), some (.int x1), o2, o3] [] (mk vi vl) post :=
  wr_iconst (n := 0) (v := (0 : Int32)) (by decide +kernel) (by decide) <|
  wr_istore_n (q := 2) (by decide +kernel) rfl (by decide) <|
  wr_aload_n (q := 0) (by decide +kernel) rfl rfl <|
  wr_invV (a := 95) (ci := 4) (mid2 := 171) (idx := 184) (b1 := 0) (b2 := 0) (c1 := 0) (c2 := 0) (as := []) (st := []) pl_171 rfl (Nat.le_of_ble_eq_true rfl) rfl rfl lq_95 sq_95 (by decide) rfl lm_M_184 im_171 is_171 (by decide +kernel) k1
theorem b_M_can_31 {X : aX} {d : Nat} {post : aO} {vi : Nat → Nat → Int32} {vl : Nat → Nat → Int64} {x1 x2 : Int32} {o3 : Option Value} (k1 : wp X (d + 1) k_M_can 0 0 33 [some (.ref 95), some (.int x1), some (.int x2), some (.int (0 : Int32))] [] (mk vi vl) post) : wp X (d + 1) k_M_can 0 0 31 [some (.ref 95), some (.int x1), some (.int x2), o3] [] (mk vi vl) post :=
  wr_iconst (n := 0) (v := (0 : Int32)) (by decide +kernel) (by decide) <|
  wr_istore_n (q := 3) (by decide +kernel) rfl (by decide) <|
  k1
theorem b_M_can_33 {X : aX} {d : Nat} {post : aO} {vi : Nat → Nat → Int32} {vl : Nat → Nat → Int64} {x1 x2 x3 : Int32} (k1 : (5 : Int32) ≤ x3 → wp X (d + 1) k_M_can 0 0 71 [some (.ref 95), some (.int x1), some (.int x2), some (.int x3)] [] (mk vi vl) post) (k2 : ¬ (5 : Int32) ≤ x3 → wp X (d + 1) k_M_can 0 0 38 [some (.ref 95), some (.int x1), some (.int x2), some (.int x3)] [] (mk vi vl) post) : wp X (d + 1) k_M_can 0 0 33 [some (.ref 95), some (.int x1), some (.int x2), some (.int x3)] [] (mk vi vl) post :=
  wr_iload_n (q := 3) (by decide +kernel) rfl rfl <|
  wr_iconst (n := 5) (v := (5 : Int32)) (by decide +kernel) (by decide) <|
  wr_icmp_ge (off := 36) (t := 71) (by decide +kernel) (by decide) k1 k2
theorem b_M_can_38 {X : aX} {d : Nat} {post : aO} {vi : Nat → Nat → Int32} {vl : Nat → Nat → Int64} {x1 x2 x3 : Int32} (k1 : CallOk X d 0 0 k_M_sews [.ref 95, .int x1, .int x3] (mk vi vl) (fun r N' => wp X (d + 1) k_M_can 0 0 44 [some (.ref 95), some (.int x1), some (.int x2), some (.int x3)] (pR r []) N' post)) : wp X (d + 1) k_M_can 0 0 38 [some (.ref 95), some (.int x1), some (.int x2), some (.int x3)] [] (mk vi vl) post :=
  wr_aload_n (q := 0) (by decide +kernel) rfl rfl <|
  wr_iload_n (q := 1) (by decide +kernel) rfl rfl <|
  wr_iload_n (q := 3) (by decide +kernel) rfl rfl <|
  wr_invV (a := 95) (ci := 4) (mid2 := 160) (idx := 174) (b1 := 0) (b2 := 0) (c1 := 0) (c2 := 0) (as := [.int x1, .int x3]) (st := []) pl_160 rfl (Nat.le_of_ble_eq_true rfl) rfl rfl lq_95 sq_95 (by decide) rfl lm_M_174 im_160 is_160 (by decide +kernel) k1
theorem b_M_can_44 {X : aX} {d : Nat} {post : aO} {vi : Nat → Nat → Int32} {vl : Nat → Nat → Int64} {x1 x2 x3 : Int32} (k1 : CallOk X d 0 0 k_M_brokenNow [.ref 95] (mk vi vl) (fun r N' => wp X (d + 1) k_M_can 0 0 49 [some (.ref 95), some (.int x1), some (.int x2), some (.int x3)] (pR r [.int x2]) N' post)) : wp X (d + 1) k_M_can 0 0 44 [some (.ref 95), some (.int x1), some (.int x2), some (.int x3)] [] (mk vi vl) post :=
  wr_iload_n (q := 2) (by decide +kernel) rfl rfl <|
  wr_aload_n (q := 0) (by decide +kernel) rfl rfl <|
  wr_invV (a := 95) (ci := 4) (mid2 := 161) (idx := 177) (b1 := 0) (b2 := 0) (c1 := 0) (c2 := 0) (as := []) (st := [.int x2]) pl_161 rfl (Nat.le_of_ble_eq_true rfl) rfl rfl lq_95 sq_95 (by decide) rfl lm_M_177 im_161 is_161 (by decide +kernel) k1
theorem b_M_can_49 {X : aX} {d : Nat} {post : aO} {vi : Nat → Nat → Int32} {vl : Nat → Nat → Int64} {x1 x2 x3 y0 y1 : Int32} (k1 : ¬ y1 = 0 → wp X (d + 1) k_M_can 0 0 58 [some (.ref 95), some (.int x1), some (.int x2), some (.int x3)] [.int y0] (mk vi vl) post) (k2 : y1 = 0 → wp X (d + 1) k_M_can 0 0 52 [some (.ref 95), some (.int x1), some (.int x2), some (.int x3)] [.int y0] (mk vi vl) post) : wp X (d + 1) k_M_can 0 0 49 [some (.ref 95), some (.int x1), some (.int x2), some (.int x3)] [.int y1, .int y0] (mk vi vl) post :=
  wr_if_ne (off := 9) (t := 58) (by decide +kernel) (by decide) k1 k2
theorem b_M_can_52 {X : aX} {d : Nat} {post : aO} {vi : Nat → Nat → Int32} {vl : Nat → Nat → Int64} {x1 x2 x3 y0 : Int32} (k1 : wp X (d + 1) k_M_can 0 0 59 [some (.ref 95), some (.int x1), some (.int x2), some (.int x3)] [.int ((1 : Int32) <<< (x3 &&& 31)), .int y0] (mk vi vl) post) : wp X (d + 1) k_M_can 0 0 52 [some (.ref 95), some (.int x1), some (.int x2), some (.int x3)] [.int y0] (mk vi vl) post :=
  wr_iconst (n := 1) (v := (1 : Int32)) (by decide +kernel) (by decide) <|
  wr_iload_n (q := 3) (by decide +kernel) rfl rfl <|
  wr_ishl (by decide +kernel) <|
  wr_goto (off := 4) (t := 59) (by decide +kernel) (by decide) k1
theorem b_M_can_58 {X : aX} {d : Nat} {post : aO} {vi : Nat → Nat → Int32} {vl : Nat → Nat → Int64} {x1 x2 x3 y0 : Int32} (k1 : wp X (d + 1) k_M_can 0 0 59 [some (.ref 95), some (.int x1), some (.int x2), some (.int x3)] [.int (0 : Int32), .int y0] (mk vi vl) post) : wp X (d + 1) k_M_can 0 0 58 [some (.ref 95), some (.int x1), some (.int x2), some (.int x3)] [.int y0] (mk vi vl) post :=
  wr_iconst (n := 0) (v := (0 : Int32)) (by decide +kernel) (by decide) <|
  k1
theorem b_M_can_59 {X : aX} {d : Nat} {post : aO} {vi : Nat → Nat → Int32} {vl : Nat → Nat → Int64} {x1 x2 x3 y0 y1 : Int32} (k1 : CallOk X d 0 0 k_M_putsBack [.ref 95] (mk vi vl) (fun r N' => wp X (d + 1) k_M_can 0 0 65 [some (.ref 95), some (.int x1), some (.int (y0 ||| y1)), some (.int x3)] (pR r []) N' post)) : wp X (d + 1) k_M_can 0 0 59 [some (.ref 95), some (.int x1), some (.int x2), some (.int x3)] [.int y1, .int y0] (mk vi vl) post :=
  wr_ior (by decide +kernel) <|
  wr_istore_n (q := 2) (by decide +kernel) rfl (by decide) <|
  wr_aload_n (q := 0) (by decide +kernel) rfl rfl <|
  wr_invV (a := 95) (ci := 4) (mid2 := 172) (idx := 187) (b1 := 0) (b2 := 0) (c1 := 0) (c2 := 0) (as := []) (st := []) pl_172 rfl (Nat.le_of_ble_eq_true rfl) rfl rfl lq_95 sq_95 (by decide) rfl lm_M_187 im_172 is_172 (by decide +kernel) k1
theorem b_M_can_65 {X : aX} {d : Nat} {post : aO} {vi : Nat → Nat → Int32} {vl : Nat → Nat → Int64} {x1 x2 x3 : Int32} (k1 : wp X (d + 1) k_M_can 0 0 33 [some (.ref 95), some (.int x1), some (.int x2), some (.int (x3 + (1 : Int32)))] [] (mk vi vl) post) : wp X (d + 1) k_M_can 0 0 65 [some (.ref 95), some (.int x1), some (.int x2), some (.int x3)] [] (mk vi vl) post :=
  wr_iinc (i := 3) (n := 1) (v := (1 : Int32)) (by decide +kernel) rfl (by decide) (by decide) <|
  wr_goto (off := -35) (t := 33) (by decide +kernel) (by decide) k1
theorem b_M_can_71 {X : aX} {d : Nat} {post : aO} {vi : Nat → Nat → Int32} {vl : Nat → Nat → Int64} {x1 x2 x3 : Int32} (k1 : post (some (.int x2)) (mk vi vl)) : wp X (d + 1) k_M_can 0 0 71 [some (.ref 95), some (.int x1), some (.int x2), some (.int x3)] [] (mk vi vl) post :=
  wr_iload_n (q := 2) (by decide +kernel) rfl rfl <|
  wr_ret (r := some (.int x2)) (Or.inr (Or.inl ⟨_, rfl, (by decide +kernel), (Or.inl rfl)⟩)) k1
theorem b_M_lays_0 {X : aX} {d : Nat} {post : aO} {vi : Nat → Nat → Int32} {vl : Nat → Nat → Int64}  (k1 : CallOk X d 0 0 k_M_copyAll [.ref 95, .int (0 : Int32), .int (5940 : Int32), .int (36 : Int32)] (mk vi vl) (fun r N' => wp X (d + 1) k_M_lays 0 0 10 [some (.ref 95)] (pR r []) N' post)) : wp X (d + 1) k_M_lays 0 0 0 [some (.ref 95)] [] (mk vi vl) post :=
  wr_aload_n (q := 0) (by decide +kernel) rfl rfl <|
  wr_iconst (n := 0) (v := (0 : Int32)) (by decide +kernel) (by decide) <|
  wr_sipush (n := 5940) (v := (5940 : Int32)) (by decide +kernel) (by decide) <|
  wr_bipush (n := 36) (v := (36 : Int32)) (by decide +kernel) (by decide) <|
  wr_invV (a := 95) (ci := 4) (mid2 := 141) (idx := 123) (b1 := 0) (b2 := 0) (c1 := 0) (c2 := 0) (as := [.int (0 : Int32), .int (5940 : Int32), .int (36 : Int32)]) (st := []) pl_141 rfl (Nat.le_of_ble_eq_true rfl) rfl rfl lq_95 sq_95 (by decide) rfl lm_M_123 im_141 is_141 (by decide +kernel) k1
theorem b_M_lays_10 {X : aX} {d : Nat} {post : aO} {vi : Nat → Nat → Int32} {vl : Nat → Nat → Int64}  (k1 : post none (mk vi vl)) : wp X (d + 1) k_M_lays 0 0 10 [some (.ref 95)] [] (mk vi vl) post :=
  wr_ret (r := none) (Or.inl ⟨rfl, (by decide +kernel), rfl⟩) k1
theorem b_M_putsBack_0 {X : aX} {d : Nat} {post : aO} {vi : Nat → Nat → Int32} {vl : Nat → Nat → Int64}  (k1 : CallOk X d 0 0 k_M_copyAll [.ref 95, .int (5940 : Int32), .int (0 : Int32), .int (36 : Int32)] (mk vi vl) (fun r N' => wp X (d + 1) k_M_putsBack 0 0 10 [some (.ref 95)] (pR r []) N' post)) : wp X (d + 1) k_M_putsBack 0 0 0 [some (.ref 95)] [] (mk vi vl) post :=
  wr_aload_n (q := 0) (by decide +kernel) rfl rfl <|
  wr_sipush (n := 5940) (v := (5940 : Int32)) (by decide +kernel) (by decide) <|
  wr_iconst (n := 0) (v := (0 : Int32)) (by decide +kernel) (by decide) <|
  wr_bipush (n := 36) (v := (36 : Int32)) (by decide +kernel) (by decide) <|
  wr_invV (a := 95) (ci := 4) (mid2 := 141) (idx := 123) (b1 := 0) (b2 := 0) (c1 := 0) (c2 := 0) (as := [.int (5940 : Int32), .int (0 : Int32), .int (36 : Int32)]) (st := []) pl_141 rfl (Nat.le_of_ble_eq_true rfl) rfl rfl lq_95 sq_95 (by decide) rfl lm_M_123 im_141 is_141 (by decide +kernel) k1
theorem b_M_putsBack_10 {X : aX} {d : Nat} {post : aO} {vi : Nat → Nat → Int32} {vl : Nat → Nat → Int64}  (k1 : post none (mk vi vl)) : wp X (d + 1) k_M_putsBack 0 0 10 [some (.ref 95)] [] (mk vi vl) post :=
  wr_ret (r := none) (Or.inl ⟨rfl, (by decide +kernel), rfl⟩) k1
theorem b_M_safe_0 {X : aX} {d : Nat} {post : aO} {vi : Nat → Nat → Int32} {vl : Nat → Nat → Int64} {x1 : Int32} (k1 : CallOk X d 0 0 k_M_isYear [.ref 95, .int x1] (mk vi vl) (fun r N' => wp X (d + 1) k_M_safe 0 0 5 [some (.ref 95), some (.int x1), none, none, none, none] (pR r []) N' post)) : wp X (d + 1) k_M_safe 0 0 0 [some (.ref 95), some (.int x1), none, none, none, none] [] (mk vi vl) post :=
  wr_aload_n (q := 0) (by decide +kernel) rfl rfl <|
  wr_iload_n (q := 1) (by decide +kernel) rfl rfl <|
  wr_invV (a := 95) (ci := 4) (mid2 := 143) (idx := 151) (b1 := 0) (b2 := 0) (c1 := 0) (c2 := 0) (as := [.int x1]) (st := []) pl_143 rfl (Nat.le_of_ble_eq_true rfl) rfl rfl lq_95 sq_95 (by decide) rfl lm_M_151 im_143 is_143 (by decide +kernel) k1
theorem b_M_safe_5 {X : aX} {d : Nat} {post : aO} {vi : Nat → Nat → Int32} {vl : Nat → Nat → Int64} {x1 y0 : Int32} {o2 o3 o4 o5 : Option Value} (k1 : y0 = 0 → wp X (d + 1) k_M_safe 0 0 20 [some (.ref 95), some (.int x1), o2, o3, o4, o5] [] (mk vi vl) post) (k2 : ¬ y0 = 0 → wp X (d + 1) k_M_safe 0 0 8 [some (.ref 95), some (.int x1), o2, o3, o4, o5] [] (mk vi vl) post) : wp X (d + 1) k_M_safe 0 0 5 [some (.ref 95), some (.int x1), o2, o3, o4, o5] [.int y0] (mk vi vl) post :=
  wr_if_eq (off := 15) (t := 20) (by decide +kernel) (by decide) k1 k2
theorem b_M_safe_8 {X : aX} {d : Nat} {post : aO} {vi : Nat → Nat → Int32} {vl : Nat → Nat → Int64} {x1 : Int32} {o2 o3 o4 o5 : Option Value} (k1 : ¬ x1 = ((vi 96 0) - (1 : Int32)) → wp X (d + 1) k_M_safe 0 0 22 [some (.ref 95), some (.int x1), o2, o3, o4, o5] [] (mk vi vl) post) (k2 : x1 = ((vi 96 0) - (1 : Int32)) → wp X (d + 1) k_M_safe 0 0 20 [some (.ref 95), some (.int x1), o2, o3, o4, o5] [] (mk vi vl) post) : wp X (d + 1) k_M_safe 0 0 8 [some (.ref 95), some (.int x1), o2, o3, o4, o5] [] (mk vi vl) post :=
  wr_iload_n (q := 1) (by decide +kernel) rfl rfl <|
  wr_aload_n (q := 0) (by decide +kernel) rfl rfl <|
  wr_getR2 (b := 96) (ci := 4) (k0 := 0) (idx := 7) lq_95 sq_95 (by decide) (by decide) lf_M_7 rfl vq_95_0 lq_96 (by decide +kernel) <|
  wr_iconst (n := 0) (v := (0 : Int32)) (by decide +kernel) (by decide) <|
  wr_iald lq_96 sq_96 (by unfold vp_in; decide) (by decide +kernel) <|
  wr_iconst (n := 1) (v := (1 : Int32)) (by decide +kernel) (by decide) <|
  wr_isub (by decide +kernel) <|
  wr_icmp_ne (off := 5) (t := 22) (by decide +kernel) (by decide) k1 k2
theorem b_M_safe_20 {X : aX} {d : Nat} {post : aO} {vi : Nat → Nat → Int32} {vl : Nat → Nat → Int64} {x1 : Int32} {o2 o3 o4 o5 : Option Value} (k1 : post (some (.int (-1 : Int32))) (mk vi vl)) : wp X (d + 1) k_M_safe 0 0 20 [some (.ref 95), some (.int x1), o2, o3, o4, o5] [] (mk vi vl) post :=
  wr_iconst (n := -1) (v := (-1 : Int32)) (by decide +kernel) (by decide) <|
  wr_ret (r := some (.int (-1 : Int32))) (Or.inr (Or.inl ⟨_, rfl, (by decide +kernel), (Or.inl rfl)⟩)) k1
theorem b_M_safe_22 {X : aX} {d : Nat} {post : aO} {vi : Nat → Nat → Int32} {vl : Nat → Nat → Int64} {x1 : Int32} {o2 o3 o4 o5 : Option Value} (k1 : CallOk X d 0 0 k_M_lays [.ref 95] (mk vi vl) (fun r N' => wp X (d + 1) k_M_safe 0 0 28 [some (.ref 95), some (.int x1), some (.int (0 : Int32)), o3, o4, o5] (pR r []) N' post)) : wp X (d + 1) k_M_safe 0 0 22 [some (.ref 95), some (.int x1), o2, o3, o4, o5] [] (mk vi vl) post :=
  wr_iconst (n := 0) (v := (0 : Int32)) (by decide +kernel) (by decide) <|
  wr_istore_n (q := 2) (by decide +kernel) rfl (by decide) <|
  wr_aload_n (q := 0) (by decide +kernel) rfl rfl <|
  wr_invV (a := 95) (ci := 4) (mid2 := 171) (idx := 184) (b1 := 0) (b2 := 0) (c1 := 0) (c2 := 0) (as := []) (st := []) pl_171 rfl (Nat.le_of_ble_eq_true rfl) rfl rfl lq_95 sq_95 (by decide) rfl lm_M_184 im_171 is_171 (by decide +kernel) k1
theorem b_M_safe_28 {X : aX} {d : Nat} {post : aO} {vi : Nat → Nat → Int32} {vl : Nat → Nat → Int64} {x1 x2 : Int32} {o3 o4 o5 : Option Value} (k1 : wp X (d + 1) k_M_safe 0 0 30 [some (.ref 95), some (.int x1), some (.int x2), some (.int (0 : Int32)), o4, o5] [] (mk vi vl) post) : wp X (d + 1) k_M_safe 0 0 28 [some (.ref 95), some (.int x1), some (.int x2), o3, o4, o5] [] (mk vi vl) post :=
  wr_iconst (n := 0) (v := (0 : Int32)) (by decide +kernel) (by decide) <|
  wr_istore_n (q := 3) (by decide +kernel) rfl (by decide) <|
  k1
theorem b_M_safe_30 {X : aX} {d : Nat} {post : aO} {vi : Nat → Nat → Int32} {vl : Nat → Nat → Int64} {x1 x2 x3 : Int32} {o4 o5 : Option Value} (k1 : (5 : Int32) ≤ x3 → wp X (d + 1) k_M_safe 0 0 112 [some (.ref 95), some (.int x1), some (.int x2), some (.int x3), o4, o5] [] (mk vi vl) post) (k2 : ¬ (5 : Int32) ≤ x3 → wp X (d + 1) k_M_safe 0 0 35 [some (.ref 95), some (.int x1), some (.int x2), some (.int x3), o4, o5] [] (mk vi vl) post) : wp X (d + 1) k_M_safe 0 0 30 [some (.ref 95), some (.int x1), some (.int x2), some (.int x3), o4, o5] [] (mk vi vl) post :=
  wr_iload_n (q := 3) (by decide +kernel) rfl rfl <|
  wr_iconst (n := 5) (v := (5 : Int32)) (by decide +kernel) (by decide) <|
  wr_icmp_ge (off := 80) (t := 112) (by decide +kernel) (by decide) k1 k2
theorem b_M_safe_35 {X : aX} {d : Nat} {post : aO} {vi : Nat → Nat → Int32} {vl : Nat → Nat → Int64} {x1 x2 x3 : Int32} {o4 o5 : Option Value} (k1 : wp X (d + 1) k_M_safe 0 0 41 [some (.ref 95), some (.int x1), some (.int x2), some (.int x3), some (.int (1 : Int32)), some (.int (0 : Int32))] [] (mk vi vl) post) : wp X (d + 1) k_M_safe 0 0 35 [some (.ref 95), some (.int x1), some (.int x2), some (.int x3), o4, o5] [] (mk vi vl) post :=
  wr_iconst (n := 1) (v := (1 : Int32)) (by decide +kernel) (by decide) <|
  wr_istore (i := 4) (by decide +kernel) (by decide) <|
  wr_iconst (n := 0) (v := (0 : Int32)) (by decide +kernel) (by decide) <|
  wr_istore (i := 5) (by decide +kernel) (by decide) <|
  k1
theorem b_M_safe_41 {X : aX} {d : Nat} {post : aO} {vi : Nat → Nat → Int32} {vl : Nat → Nat → Int64} {x1 x2 x3 x4 x5 : Int32} (k1 : (5 : Int32) ≤ x5 → wp X (d + 1) k_M_safe 0 0 91 [some (.ref 95), some (.int x1), some (.int x2), some (.int x3), some (.int x4), some (.int x5)] [] (mk vi vl) post) (k2 : ¬ (5 : Int32) ≤ x5 → wp X (d + 1) k_M_safe 0 0 47 [some (.ref 95), some (.int x1), some (.int x2), some (.int x3), some (.int x4), some (.int x5)] [] (mk vi vl) post) : wp X (d + 1) k_M_safe 0 0 41 [some (.ref 95), some (.int x1), some (.int x2), some (.int x3), some (.int x4), some (.int x5)] [] (mk vi vl) post :=
  wr_iload (i := 5) (by decide +kernel) rfl <|
  wr_iconst (n := 5) (v := (5 : Int32)) (by decide +kernel) (by decide) <|
  wr_icmp_ge (off := 47) (t := 91) (by decide +kernel) (by decide) k1 k2
theorem b_M_safe_47 {X : aX} {d : Nat} {post : aO} {vi : Nat → Nat → Int32} {vl : Nat → Nat → Int64} {x1 x2 x3 x4 x5 : Int32} (k1 : CallOk X d 0 0 k_M_sews [.ref 95, .int x1, .int x3] (mk vi vl) (fun r N' => wp X (d + 1) k_M_safe 0 0 53 [some (.ref 95), some (.int x1), some (.int x2), some (.int x3), some (.int x4), some (.int x5)] (pR r []) N' post)) : wp X (d + 1) k_M_safe 0 0 47 [some (.ref 95), some (.int x1), some (.int x2), some (.int x3), some (.int x4), some (.int x5)] [] (mk vi vl) post :=
  wr_aload_n (q := 0) (by decide +kernel) rfl rfl <|
  wr_iload_n (q := 1) (by decide +kernel) rfl rfl <|
  wr_iload_n (q := 3) (by decide +kernel) rfl rfl <|
  wr_invV (a := 95) (ci := 4) (mid2 := 160) (idx := 174) (b1 := 0) (b2 := 0) (c1 := 0) (c2 := 0) (as := [.int x1, .int x3]) (st := []) pl_160 rfl (Nat.le_of_ble_eq_true rfl) rfl rfl lq_95 sq_95 (by decide) rfl lm_M_174 im_160 is_160 (by decide +kernel) k1
theorem b_M_safe_53 {X : aX} {d : Nat} {post : aO} {vi : Nat → Nat → Int32} {vl : Nat → Nat → Int64} {x1 x2 x3 x4 x5 : Int32} (k1 : CallOk X d 0 0 k_M_sews [.ref 95, .int (x1 + (1 : Int32)), .int x5] (mk vi vl) (fun r N' => wp X (d + 1) k_M_safe 0 0 62 [some (.ref 95), some (.int x1), some (.int x2), some (.int x3), some (.int x4), some (.int x5)] (pR r []) N' post)) : wp X (d + 1) k_M_safe 0 0 53 [some (.ref 95), some (.int x1), some (.int x2), some (.int x3), some (.int x4), some (.int x5)] [] (mk vi vl) post :=
  wr_aload_n (q := 0) (by decide +kernel) rfl rfl <|
  wr_iload_n (q := 1) (by decide +kernel) rfl rfl <|
  wr_iconst (n := 1) (v := (1 : Int32)) (by decide +kernel) (by decide) <|
  wr_iadd (by decide +kernel) <|
  wr_iload (i := 5) (by decide +kernel) rfl <|
  wr_invV (a := 95) (ci := 4) (mid2 := 160) (idx := 174) (b1 := 0) (b2 := 0) (c1 := 0) (c2 := 0) (as := [.int (x1 + (1 : Int32)), .int x5]) (st := []) pl_160 rfl (Nat.le_of_ble_eq_true rfl) rfl rfl lq_95 sq_95 (by decide) rfl lm_M_174 im_160 is_160 (by decide +kernel) k1
theorem b_M_safe_62 {X : aX} {d : Nat} {post : aO} {vi : Nat → Nat → Int32} {vl : Nat → Nat → Int64} {x1 x2 x3 x4 x5 : Int32} (k1 : x4 = 0 → wp X (d + 1) k_M_safe 0 0 78 [some (.ref 95), some (.int x1), some (.int x2), some (.int x3), some (.int x4), some (.int x5)] [] (mk vi vl) post) (k2 : ¬ x4 = 0 → wp X (d + 1) k_M_safe 0 0 67 [some (.ref 95), some (.int x1), some (.int x2), some (.int x3), some (.int x4), some (.int x5)] [] (mk vi vl) post) : wp X (d + 1) k_M_safe 0 0 62 [some (.ref 95), some (.int x1), some (.int x2), some (.int x3), some (.int x4), some (.int x5)] [] (mk vi vl) post :=
  wr_iload (i := 4) (by decide +kernel) rfl <|
  wr_if_eq (off := 14) (t := 78) (by decide +kernel) (by decide) k1 k2
theorem b_M_safe_67 {X : aX} {d : Nat} {post : aO} {vi : Nat → Nat → Int32} {vl : Nat → Nat → Int64} {x1 x2 x3 x4 x5 : Int32} (k1 : CallOk X d 0 0 k_M_brokenNow [.ref 95] (mk vi vl) (fun r N' => wp X (d + 1) k_M_safe 0 0 71 [some (.ref 95), some (.int x1), some (.int x2), some (.int x3), some (.int x4), some (.int x5)] (pR r []) N' post)) : wp X (d + 1) k_M_safe 0 0 67 [some (.ref 95), some (.int x1), some (.int x2), some (.int x3), some (.int x4), some (.int x5)] [] (mk vi vl) post :=
  wr_aload_n (q := 0) (by decide +kernel) rfl rfl <|
  wr_invV (a := 95) (ci := 4) (mid2 := 161) (idx := 177) (b1 := 0) (b2 := 0) (c1 := 0) (c2 := 0) (as := []) (st := []) pl_161 rfl (Nat.le_of_ble_eq_true rfl) rfl rfl lq_95 sq_95 (by decide) rfl lm_M_177 im_161 is_161 (by decide +kernel) k1
theorem b_M_safe_71 {X : aX} {d : Nat} {post : aO} {vi : Nat → Nat → Int32} {vl : Nat → Nat → Int64} {x1 x2 x3 x4 x5 y0 : Int32} (k1 : ¬ y0 = 0 → wp X (d + 1) k_M_safe 0 0 78 [some (.ref 95), some (.int x1), some (.int x2), some (.int x3), some (.int x4), some (.int x5)] [] (mk vi vl) post) (k2 : y0 = 0 → wp X (d + 1) k_M_safe 0 0 74 [some (.ref 95), some (.int x1), some (.int x2), some (.int x3), some (.int x4), some (.int x5)] [] (mk vi vl) post) : wp X (d + 1) k_M_safe 0 0 71 [some (.ref 95), some (.int x1), some (.int x2), some (.int x3), some (.int x4), some (.int x5)] [.int y0] (mk vi vl) post :=
  wr_if_ne (off := 7) (t := 78) (by decide +kernel) (by decide) k1 k2
theorem b_M_safe_74 {X : aX} {d : Nat} {post : aO} {vi : Nat → Nat → Int32} {vl : Nat → Nat → Int64} {x1 x2 x3 x4 x5 : Int32} (k1 : wp X (d + 1) k_M_safe 0 0 79 [some (.ref 95), some (.int x1), some (.int x2), some (.int x3), some (.int x4), some (.int x5)] [.int (1 : Int32)] (mk vi vl) post) : wp X (d + 1) k_M_safe 0 0 74 [some (.ref 95), some (.int x1), some (.int x2), some (.int x3), some (.int x4), some (.int x5)] [] (mk vi vl) post :=
  wr_iconst (n := 1) (v := (1 : Int32)) (by decide +kernel) (by decide) <|
  wr_goto (off := 4) (t := 79) (by decide +kernel) (by decide) k1
theorem b_M_safe_78 {X : aX} {d : Nat} {post : aO} {vi : Nat → Nat → Int32} {vl : Nat → Nat → Int64} {x1 x2 x3 x4 x5 : Int32} (k1 : wp X (d + 1) k_M_safe 0 0 79 [some (.ref 95), some (.int x1), some (.int x2), some (.int x3), some (.int x4), some (.int x5)] [.int (0 : Int32)] (mk vi vl) post) : wp X (d + 1) k_M_safe 0 0 78 [some (.ref 95), some (.int x1), some (.int x2), some (.int x3), some (.int x4), some (.int x5)] [] (mk vi vl) post :=
  wr_iconst (n := 0) (v := (0 : Int32)) (by decide +kernel) (by decide) <|
  k1
theorem b_M_safe_79 {X : aX} {d : Nat} {post : aO} {vi : Nat → Nat → Int32} {vl : Nat → Nat → Int64} {x1 x2 x3 x4 x5 y0 : Int32} (k1 : CallOk X d 0 0 k_M_putsBack [.ref 95] (mk vi vl) (fun r N' => wp X (d + 1) k_M_safe 0 0 85 [some (.ref 95), some (.int x1), some (.int x2), some (.int x3), some (.int y0), some (.int x5)] (pR r []) N' post)) : wp X (d + 1) k_M_safe 0 0 79 [some (.ref 95), some (.int x1), some (.int x2), some (.int x3), some (.int x4), some (.int x5)] [.int y0] (mk vi vl) post :=
  wr_istore (i := 4) (by decide +kernel) (by decide) <|
  wr_aload_n (q := 0) (by decide +kernel) rfl rfl <|
  wr_invV (a := 95) (ci := 4) (mid2 := 172) (idx := 187) (b1 := 0) (b2 := 0) (c1 := 0) (c2 := 0) (as := []) (st := []) pl_172 rfl (Nat.le_of_ble_eq_true rfl) rfl rfl lq_95 sq_95 (by decide) rfl lm_M_187 im_172 is_172 (by decide +kernel) k1
theorem b_M_safe_85 {X : aX} {d : Nat} {post : aO} {vi : Nat → Nat → Int32} {vl : Nat → Nat → Int64} {x1 x2 x3 x4 x5 : Int32} (k1 : wp X (d + 1) k_M_safe 0 0 41 [some (.ref 95), some (.int x1), some (.int x2), some (.int x3), some (.int x4), some (.int (x5 + (1 : Int32)))] [] (mk vi vl) post) : wp X (d + 1) k_M_safe 0 0 85 [some (.ref 95), some (.int x1), some (.int x2), some (.int x3), some (.int x4), some (.int x5)] [] (mk vi vl) post :=
  wr_iinc (i := 5) (n := 1) (v := (1 : Int32)) (by decide +kernel) rfl (by decide) (by decide) <|
  wr_goto (off := -47) (t := 41) (by decide +kernel) (by decide) k1
theorem b_M_safe_91 {X : aX} {d : Nat} {post : aO} {vi : Nat → Nat → Int32} {vl : Nat → Nat → Int64} {x1 x2 x3 x4 x5 : Int32} (k1 : x4 = 0 → wp X (d + 1) k_M_safe 0 0 103 [some (.ref 95), some (.int x1), some (.int x2), some (.int x3), some (.int x4), some (.int x5)] [.int x2] (mk vi vl) post) (k2 : ¬ x4 = 0 → wp X (d + 1) k_M_safe 0 0 97 [some (.ref 95), some (.int x1), some (.int x2), some (.int x3), some (.int x4), some (.int x5)] [.int x2] (mk vi vl) post) : wp X (d + 1) k_M_safe 0 0 91 [some (.ref 95), some (.int x1), some (.int x2), some (.int x3), some (.int x4), some (.int x5)] [] (mk vi vl) post :=
  wr_iload_n (q := 2) (by decide +kernel) rfl rfl <|
  wr_iload (i := 4) (by decide +kernel) rfl <|
  wr_if_eq (off := 9) (t := 103) (by decide +kernel) (by decide) k1 k2
theorem b_M_safe_97 {X : aX} {d : Nat} {post : aO} {vi : Nat → Nat → Int32} {vl : Nat → Nat → Int64} {x1 x2 x3 x4 x5 y0 : Int32} (k1 : wp X (d + 1) k_M_safe 0 0 104 [some (.ref 95), some (.int x1), some (.int x2), some (.int x3), some (.int x4), some (.int x5)] [.int ((1 : Int32) <<< (x3 &&& 31)), .int y0] (mk vi vl) post) : wp X (d + 1) k_M_safe 0 0 97 [some (.ref 95), some (.int x1), some (.int x2), some (.int x3), some (.int x4), some (.int x5)] [.int y0] (mk vi vl) post :=
  wr_iconst (n := 1) (v := (1 : Int32)) (by decide +kernel) (by decide) <|
  wr_iload_n (q := 3) (by decide +kernel) rfl rfl <|
  wr_ishl (by decide +kernel) <|
  wr_goto (off := 4) (t := 104) (by decide +kernel) (by decide) k1
theorem b_M_safe_103 {X : aX} {d : Nat} {post : aO} {vi : Nat → Nat → Int32} {vl : Nat → Nat → Int64} {x1 x2 x3 x4 x5 y0 : Int32} (k1 : wp X (d + 1) k_M_safe 0 0 104 [some (.ref 95), some (.int x1), some (.int x2), some (.int x3), some (.int x4), some (.int x5)] [.int (0 : Int32), .int y0] (mk vi vl) post) : wp X (d + 1) k_M_safe 0 0 103 [some (.ref 95), some (.int x1), some (.int x2), some (.int x3), some (.int x4), some (.int x5)] [.int y0] (mk vi vl) post :=
  wr_iconst (n := 0) (v := (0 : Int32)) (by decide +kernel) (by decide) <|
  k1
theorem b_M_safe_104 {X : aX} {d : Nat} {post : aO} {vi : Nat → Nat → Int32} {vl : Nat → Nat → Int64} {x1 x2 x3 x4 x5 y0 y1 : Int32} (k1 : wp X (d + 1) k_M_safe 0 0 30 [some (.ref 95), some (.int x1), some (.int (y0 ||| y1)), some (.int (x3 + (1 : Int32))), some (.int x4), some (.int x5)] [] (mk vi vl) post) : wp X (d + 1) k_M_safe 0 0 104 [some (.ref 95), some (.int x1), some (.int x2), some (.int x3), some (.int x4), some (.int x5)] [.int y1, .int y0] (mk vi vl) post :=
  wr_ior (by decide +kernel) <|
  wr_istore_n (q := 2) (by decide +kernel) rfl (by decide) <|
  wr_iinc (i := 3) (n := 1) (v := (1 : Int32)) (by decide +kernel) rfl (by decide) (by decide) <|
  wr_goto (off := -79) (t := 30) (by decide +kernel) (by decide) k1
theorem b_M_safe_112 {X : aX} {d : Nat} {post : aO} {vi : Nat → Nat → Int32} {vl : Nat → Nat → Int64} {x1 x2 x3 : Int32} {o4 o5 : Option Value} (k1 : post (some (.int x2)) (mk vi vl)) : wp X (d + 1) k_M_safe 0 0 112 [some (.ref 95), some (.int x1), some (.int x2), some (.int x3), o4, o5] [] (mk vi vl) post :=
  wr_iload_n (q := 2) (by decide +kernel) rfl rfl <|
  wr_ret (r := some (.int x2)) (Or.inr (Or.inl ⟨_, rfl, (by decide +kernel), (Or.inl rfl)⟩)) k1
theorem b_M_least_0 {X : aX} {d : Nat} {post : aO} {vi : Nat → Nat → Int32} {vl : Nat → Nat → Int64} {x1 x2 x3 : Int32} (k1 : CallOk X d 0 0 k_M_isTold [.int x1] (mk vi vl) (fun r N' => wp X (d + 1) k_M_least 0 0 4 [some (.ref 95), some (.int x1), some (.int x2), some (.int x3), none] (pR r []) N' post)) : wp X (d + 1) k_M_least 0 0 0 [some (.ref 95), some (.int x1), some (.int x2), some (.int x3), none] [] (mk vi vl) post :=
  wr_iload_n (q := 1) (by decide +kernel) rfl rfl <|
  wr_invS (mid2 := 157) (idx := 168) (b1 := 0) (b2 := 0) (c1 := 0) (c2 := 0) (as := [.int x1]) (st := []) pl_157 rfl (Nat.le_of_ble_eq_true rfl) rfl rfl lm_M_168 it_157 (by decide +kernel) k1
theorem b_M_least_4 {X : aX} {d : Nat} {post : aO} {vi : Nat → Nat → Int32} {vl : Nat → Nat → Int64} {x1 x2 x3 y0 : Int32} {o4 : Option Value} (k1 : y0 = 0 → wp X (d + 1) k_M_least 0 0 22 [some (.ref 95), some (.int x1), some (.int x2), some (.int x3), o4] [] (mk vi vl) post) (k2 : ¬ y0 = 0 → wp X (d + 1) k_M_least 0 0 7 [some (.ref 95), some (.int x1), some (.int x2), some (.int x3), o4] [] (mk vi vl) post) : wp X (d + 1) k_M_least 0 0 4 [some (.ref 95), some (.int x1), some (.int x2), some (.int x3), o4] [.int y0] (mk vi vl) post :=
  wr_if_eq (off := 18) (t := 22) (by decide +kernel) (by decide) k1 k2
theorem b_M_least_7 {X : aX} {d : Nat} {post : aO} {vi : Nat → Nat → Int32} {vl : Nat → Nat → Int64} {x1 x2 x3 : Int32} {o4 : Option Value} (k1 : CallOk X d 0 0 k_M_isYear [.ref 95, .int x2] (mk vi vl) (fun r N' => wp X (d + 1) k_M_least 0 0 12 [some (.ref 95), some (.int x1), some (.int x2), some (.int x3), o4] (pR r []) N' post)) : wp X (d + 1) k_M_least 0 0 7 [some (.ref 95), some (.int x1), some (.int x2), some (.int x3), o4] [] (mk vi vl) post :=
  wr_aload_n (q := 0) (by decide +kernel) rfl rfl <|
  wr_iload_n (q := 2) (by decide +kernel) rfl rfl <|
  wr_invV (a := 95) (ci := 4) (mid2 := 143) (idx := 151) (b1 := 0) (b2 := 0) (c1 := 0) (c2 := 0) (as := [.int x2]) (st := []) pl_143 rfl (Nat.le_of_ble_eq_true rfl) rfl rfl lq_95 sq_95 (by decide) rfl lm_M_151 im_143 is_143 (by decide +kernel) k1
theorem b_M_least_12 {X : aX} {d : Nat} {post : aO} {vi : Nat → Nat → Int32} {vl : Nat → Nat → Int64} {x1 x2 x3 y0 : Int32} {o4 : Option Value} (k1 : y0 = 0 → wp X (d + 1) k_M_least 0 0 22 [some (.ref 95), some (.int x1), some (.int x2), some (.int x3), o4] [] (mk vi vl) post) (k2 : ¬ y0 = 0 → wp X (d + 1) k_M_least 0 0 15 [some (.ref 95), some (.int x1), some (.int x2), some (.int x3), o4] [] (mk vi vl) post) : wp X (d + 1) k_M_least 0 0 12 [some (.ref 95), some (.int x1), some (.int x2), some (.int x3), o4] [.int y0] (mk vi vl) post :=
  wr_if_eq (off := 10) (t := 22) (by decide +kernel) (by decide) k1 k2
theorem b_M_least_15 {X : aX} {d : Nat} {post : aO} {vi : Nat → Nat → Int32} {vl : Nat → Nat → Int64} {x1 x2 x3 : Int32} {o4 : Option Value} (k1 : CallOk X d 0 0 k_M_isRow [.int x3] (mk vi vl) (fun r N' => wp X (d + 1) k_M_least 0 0 19 [some (.ref 95), some (.int x1), some (.int x2), some (.int x3), o4] (pR r []) N' post)) : wp X (d + 1) k_M_least 0 0 15 [some (.ref 95), some (.int x1), some (.int x2), some (.int x3), o4] [] (mk vi vl) post :=
  wr_iload_n (q := 3) (by decide +kernel) rfl rfl <|
  wr_invS (mid2 := 117) (idx := 65) (b1 := 0) (b2 := 0) (c1 := 0) (c2 := 0) (as := [.int x3]) (st := []) pl_117 rfl (Nat.le_of_ble_eq_true rfl) rfl rfl lm_M_65 it_117 (by decide +kernel) k1
theorem b_M_least_19 {X : aX} {d : Nat} {post : aO} {vi : Nat → Nat → Int32} {vl : Nat → Nat → Int64} {x1 x2 x3 y0 : Int32} {o4 : Option Value} (k1 : ¬ y0 = 0 → wp X (d + 1) k_M_least 0 0 24 [some (.ref 95), some (.int x1), some (.int x2), some (.int x3), o4] [] (mk vi vl) post) (k2 : y0 = 0 → wp X (d + 1) k_M_least 0 0 22 [some (.ref 95), some (.int x1), some (.int x2), some (.int x3), o4] [] (mk vi vl) post) : wp X (d + 1) k_M_least 0 0 19 [some (.ref 95), some (.int x1), some (.int x2), some (.int x3), o4] [.int y0] (mk vi vl) post :=
  wr_if_ne (off := 5) (t := 24) (by decide +kernel) (by decide) k1 k2
theorem b_M_least_22 {X : aX} {d : Nat} {post : aO} {vi : Nat → Nat → Int32} {vl : Nat → Nat → Int64} {x1 x2 x3 : Int32} {o4 : Option Value} (k1 : post (some (.int (-1 : Int32))) (mk vi vl)) : wp X (d + 1) k_M_least 0 0 22 [some (.ref 95), some (.int x1), some (.int x2), some (.int x3), o4] [] (mk vi vl) post :=
  wr_iconst (n := -1) (v := (-1 : Int32)) (by decide +kernel) (by decide) <|
  wr_ret (r := some (.int (-1 : Int32))) (Or.inr (Or.inl ⟨_, rfl, (by decide +kernel), (Or.inl rfl)⟩)) k1
theorem b_M_least_24 {X : aX} {d : Nat} {post : aO} {vi : Nat → Nat → Int32} {vl : Nat → Nat → Int64} {x1 x2 x3 : Int32} {o4 : Option Value} (k1 : CallOk X d 0 0 k_M_fewest [.ref 95, .int x1, .int x2] (mk vi vl) (fun r N' => wp X (d + 1) k_M_least 0 0 30 [some (.ref 95), some (.int x1), some (.int x2), some (.int x3), o4] (pR r []) N' post)) : wp X (d + 1) k_M_least 0 0 24 [some (.ref 95), some (.int x1), some (.int x2), some (.int x3), o4] [] (mk vi vl) post :=
  wr_aload_n (q := 0) (by decide +kernel) rfl rfl <|
  wr_iload_n (q := 1) (by decide +kernel) rfl rfl <|
  wr_iload_n (q := 2) (by decide +kernel) rfl rfl <|
  wr_invV (a := 95) (ci := 4) (mid2 := 175) (idx := 203) (b1 := 0) (b2 := 0) (c1 := 0) (c2 := 0) (as := [.int x1, .int x2]) (st := []) pl_175 rfl (Nat.le_of_ble_eq_true rfl) rfl rfl lq_95 sq_95 (by decide) rfl lm_M_203 im_175 is_175 (by decide +kernel) k1
theorem b_M_least_30 {X : aX} {d : Nat} {post : aO} {vi : Nat → Nat → Int32} {vl : Nat → Nat → Int64} {x1 x2 x3 y0 : Int32} {o4 : Option Value} (k1 : ¬ y0 = (1000000 : Int32) → wp X (d + 1) k_M_least 0 0 42 [some (.ref 95), some (.int x1), some (.int x2), some (.int x3), some (.int y0)] [] (mk vi vl) post) (k2 : y0 = (1000000 : Int32) → wp X (d + 1) k_M_least 0 0 39 [some (.ref 95), some (.int x1), some (.int x2), some (.int x3), some (.int y0)] [] (mk vi vl) post) : wp X (d + 1) k_M_least 0 0 30 [some (.ref 95), some (.int x1), some (.int x2), some (.int x3), o4] [.int y0] (mk vi vl) post :=
  wr_istore (i := 4) (by decide +kernel) (by decide) <|
  wr_iload (i := 4) (by decide +kernel) rfl <|
  wr_ldc (i := 193) (v := (1000000 : Int32)) (by decide +kernel) lk_M_193 <|
  wr_icmp_ne (off := 6) (t := 42) (by decide +kernel) (by decide) k1 k2
theorem b_M_least_39 {X : aX} {d : Nat} {post : aO} {vi : Nat → Nat → Int32} {vl : Nat → Nat → Int64} {x1 x2 x3 x4 : Int32} (k1 : post (some (.int (-9 : Int32))) (mk vi vl)) : wp X (d + 1) k_M_least 0 0 39 [some (.ref 95), some (.int x1), some (.int x2), some (.int x3), some (.int x4)] [] (mk vi vl) post :=
  wr_bipush (n := -9) (v := (-9 : Int32)) (by decide +kernel) (by decide) <|
  wr_ret (r := some (.int (-9 : Int32))) (Or.inr (Or.inl ⟨_, rfl, (by decide +kernel), (Or.inl rfl)⟩)) k1
theorem b_M_least_42 {X : aX} {d : Nat} {post : aO} {vi : Nat → Nat → Int32} {vl : Nat → Nat → Int64} {x1 x2 x3 x4 : Int32} (k1 : CallOk X d 0 0 k_M_tellsPlan [.ref 95, .int (vi 95 18), .int x3] (mk vi vl) (fun r N' => wp X (d + 1) k_M_least 0 0 51 [some (.ref 95), some (.int x1), some (.int x2), some (.int x3), some (.int x4)] (pR r []) N' post)) : wp X (d + 1) k_M_least 0 0 42 [some (.ref 95), some (.int x1), some (.int x2), some (.int x3), some (.int x4)] [] (mk vi vl) post :=
  wr_aload_n (q := 0) (by decide +kernel) rfl rfl <|
  wr_aload_n (q := 0) (by decide +kernel) rfl rfl <|
  wr_getI (ci := 4) (k0 := 18) (idx := 200) lq_95 sq_95 (by decide) (by decide) lf_M_200 (Or.inl rfl) (by decide +kernel) <|
  wr_iload_n (q := 3) (by decide +kernel) rfl rfl <|
  wr_invV (a := 95) (ci := 4) (mid2 := 179) (idx := 206) (b1 := 0) (b2 := 0) (c1 := 0) (c2 := 0) (as := [.int (vi 95 18), .int x3]) (st := []) pl_179 rfl (Nat.le_of_ble_eq_true rfl) rfl rfl lq_95 sq_95 (by decide) rfl lm_M_206 im_179 is_179 (by decide +kernel) k1
theorem b_M_least_51 {X : aX} {d : Nat} {post : aO} {vi : Nat → Nat → Int32} {vl : Nat → Nat → Int64} {x1 x2 x3 x4 : Int32} (k1 : post (some (.int x4)) (mk vi vl)) : wp X (d + 1) k_M_least 0 0 51 [some (.ref 95), some (.int x1), some (.int x2), some (.int x3), some (.int x4)] [] (mk vi vl) post :=
  wr_iload (i := 4) (by decide +kernel) rfl <|
  wr_ret (r := some (.int x4)) (Or.inr (Or.inl ⟨_, rfl, (by decide +kernel), (Or.inl rfl)⟩)) k1
theorem b_M_fewest_0 {X : aX} {d : Nat} {post : aO} {vi : Nat → Nat → Int32} {vl : Nat → Nat → Int64} {x1 x2 : Int32} (k1 : CallOk X d 0 0 k_M_plans [.ref 95] (mk vi vl) (fun r N' => wp X (d + 1) k_M_fewest 0 0 7 [some (.ref 95), some (.int x1), some (.int x2), some (.int (1000000 : Int32)), none, none, none, none] (pR r []) N' post)) : wp X (d + 1) k_M_fewest 0 0 0 [some (.ref 95), some (.int x1), some (.int x2), none, none, none, none, none] [] (mk vi vl) post :=
  wr_ldc (i := 193) (v := (1000000 : Int32)) (by decide +kernel) lk_M_193 <|
  wr_istore_n (q := 3) (by decide +kernel) rfl (by decide) <|
  wr_aload_n (q := 0) (by decide +kernel) rfl rfl <|
  wr_invV (a := 95) (ci := 4) (mid2 := 176) (idx := 194) (b1 := 0) (b2 := 0) (c1 := 0) (c2 := 0) (as := []) (st := []) pl_176 rfl (Nat.le_of_ble_eq_true rfl) rfl rfl lq_95 sq_95 (by decide) rfl lm_M_194 im_176 is_176 (by decide +kernel) k1
theorem b_M_fewest_7 {X : aX} {d : Nat} {post : aO} {vi : Nat → Nat → Int32} {vl : Nat → Nat → Int64} {x1 x2 x3 y0 : Int32} {o4 o5 o6 o7 : Option Value} (k1 : CallOk X d 0 0 k_M_lays [.ref 95] (mk vi vl) (fun r N' => wp X (d + 1) k_M_fewest 0 0 13 [some (.ref 95), some (.int x1), some (.int x2), some (.int x3), some (.int y0), o5, o6, o7] (pR r []) N' post)) : wp X (d + 1) k_M_fewest 0 0 7 [some (.ref 95), some (.int x1), some (.int x2), some (.int x3), o4, o5, o6, o7] [.int y0] (mk vi vl) post :=
  wr_istore (i := 4) (by decide +kernel) (by decide) <|
  wr_aload_n (q := 0) (by decide +kernel) rfl rfl <|
  wr_invV (a := 95) (ci := 4) (mid2 := 171) (idx := 184) (b1 := 0) (b2 := 0) (c1 := 0) (c2 := 0) (as := []) (st := []) pl_171 rfl (Nat.le_of_ble_eq_true rfl) rfl rfl lq_95 sq_95 (by decide) rfl lm_M_184 im_171 is_171 (by decide +kernel) k1
theorem b_M_fewest_13 {X : aX} {d : Nat} {post : aO} {vi : Nat → Nat → Int32} {vl : Nat → Nat → Int64} {x1 x2 x3 x4 : Int32} {o5 o6 o7 : Option Value} (k1 : wp X (d + 1) k_M_fewest 0 0 16 [some (.ref 95), some (.int x1), some (.int x2), some (.int x3), some (.int x4), some (.int (0 : Int32)), o6, o7] [] (mk vi vl) post) : wp X (d + 1) k_M_fewest 0 0 13 [some (.ref 95), some (.int x1), some (.int x2), some (.int x3), some (.int x4), o5, o6, o7] [] (mk vi vl) post :=
  wr_iconst (n := 0) (v := (0 : Int32)) (by decide +kernel) (by decide) <|
  wr_istore (i := 5) (by decide +kernel) (by decide) <|
  k1
theorem b_M_fewest_16 {X : aX} {d : Nat} {post : aO} {vi : Nat → Nat → Int32} {vl : Nat → Nat → Int64} {x1 x2 x3 x4 x5 : Int32} {o6 o7 : Option Value} (k1 : x4 ≤ x5 → wp X (d + 1) k_M_fewest 0 0 135 [some (.ref 95), some (.int x1), some (.int x2), some (.int x3), some (.int x4), some (.int x5), o6, o7] [] (mk vi vl) post) (k2 : ¬ x4 ≤ x5 → wp X (d + 1) k_M_fewest 0 0 23 [some (.ref 95), some (.int x1), some (.int x2), some (.int x3), some (.int x4), some (.int x5), o6, o7] [] (mk vi vl) post) : wp X (d + 1) k_M_fewest 0 0 16 [some (.ref 95), some (.int x1), some (.int x2), some (.int x3), some (.int x4), some (.int x5), o6, o7] [] (mk vi vl) post :=
  wr_iload (i := 5) (by decide +kernel) rfl <|
  wr_iload (i := 4) (by decide +kernel) rfl <|
  wr_icmp_ge (off := 115) (t := 135) (by decide +kernel) (by decide) k1 k2
theorem b_M_fewest_23 {X : aX} {d : Nat} {post : aO} {vi : Nat → Nat → Int32} {vl : Nat → Nat → Int64} {x1 x2 x3 x4 x5 : Int32} {o6 o7 : Option Value} (k1 : CallOk X d 0 0 k_M_does [.ref 95, .int x5] (mk vi vl) (fun r N' => wp X (d + 1) k_M_fewest 0 0 29 [some (.ref 95), some (.int x1), some (.int x2), some (.int x3), some (.int x4), some (.int x5), o6, o7] (pR r []) N' post)) : wp X (d + 1) k_M_fewest 0 0 23 [some (.ref 95), some (.int x1), some (.int x2), some (.int x3), some (.int x4), some (.int x5), o6, o7] [] (mk vi vl) post :=
  wr_aload_n (q := 0) (by decide +kernel) rfl rfl <|
  wr_iload (i := 5) (by decide +kernel) rfl <|
  wr_invV (a := 95) (ci := 4) (mid2 := 177) (idx := 197) (b1 := 0) (b2 := 0) (c1 := 0) (c2 := 0) (as := [.int x5]) (st := []) pl_177 rfl (Nat.le_of_ble_eq_true rfl) rfl rfl lq_95 sq_95 (by decide) rfl lm_M_197 im_177 is_177 (by decide +kernel) k1
theorem b_M_fewest_29 {X : aX} {d : Nat} {post : aO} {vi : Nat → Nat → Int32} {vl : Nat → Nat → Int64} {x1 x2 x3 x4 x5 y0 : Int32} {o6 o7 : Option Value} (k1 : y0 < 0 → wp X (d + 1) k_M_fewest 0 0 125 [some (.ref 95), some (.int x1), some (.int x2), some (.int x3), some (.int x4), some (.int x5), some (.int y0), o7] [] (mk vi vl) post) (k2 : ¬ y0 < 0 → wp X (d + 1) k_M_fewest 0 0 36 [some (.ref 95), some (.int x1), some (.int x2), some (.int x3), some (.int x4), some (.int x5), some (.int y0), o7] [] (mk vi vl) post) : wp X (d + 1) k_M_fewest 0 0 29 [some (.ref 95), some (.int x1), some (.int x2), some (.int x3), some (.int x4), some (.int x5), o6, o7] [.int y0] (mk vi vl) post :=
  wr_istore (i := 6) (by decide +kernel) (by decide) <|
  wr_iload (i := 6) (by decide +kernel) rfl <|
  wr_if_lt (off := 92) (t := 125) (by decide +kernel) (by decide) k1 k2
theorem b_M_fewest_36 {X : aX} {d : Nat} {post : aO} {vi : Nat → Nat → Int32} {vl : Nat → Nat → Int64} {x1 x2 x3 x4 x5 x6 : Int32} {o7 : Option Value} (k1 : x3 ≤ x6 → wp X (d + 1) k_M_fewest 0 0 125 [some (.ref 95), some (.int x1), some (.int x2), some (.int x3), some (.int x4), some (.int x5), some (.int x6), o7] [] (mk vi vl) post) (k2 : ¬ x3 ≤ x6 → wp X (d + 1) k_M_fewest 0 0 42 [some (.ref 95), some (.int x1), some (.int x2), some (.int x3), some (.int x4), some (.int x5), some (.int x6), o7] [] (mk vi vl) post) : wp X (d + 1) k_M_fewest 0 0 36 [some (.ref 95), some (.int x1), some (.int x2), some (.int x3), some (.int x4), some (.int x5), some (.int x6), o7] [] (mk vi vl) post :=
  wr_iload (i := 6) (by decide +kernel) rfl <|
  wr_iload_n (q := 3) (by decide +kernel) rfl rfl <|
  wr_icmp_ge (off := 86) (t := 125) (by decide +kernel) (by decide) k1 k2
theorem b_M_fewest_42 {X : aX} {d : Nat} {post : aO} {vi : Nat → Nat → Int32} {vl : Nat → Nat → Int64} {x1 x2 x3 x4 x5 x6 : Int32} {o7 : Option Value} (k1 : CallOk X d 0 0 k_M_brokenNow [.ref 95] (mk vi vl) (fun r N' => wp X (d + 1) k_M_fewest 0 0 46 [some (.ref 95), some (.int x1), some (.int x2), some (.int x3), some (.int x4), some (.int x5), some (.int x6), o7] (pR r []) N' post)) : wp X (d + 1) k_M_fewest 0 0 42 [some (.ref 95), some (.int x1), some (.int x2), some (.int x3), some (.int x4), some (.int x5), some (.int x6), o7] [] (mk vi vl) post :=
  wr_aload_n (q := 0) (by decide +kernel) rfl rfl <|
  wr_invV (a := 95) (ci := 4) (mid2 := 161) (idx := 177) (b1 := 0) (b2 := 0) (c1 := 0) (c2 := 0) (as := []) (st := []) pl_161 rfl (Nat.le_of_ble_eq_true rfl) rfl rfl lq_95 sq_95 (by decide) rfl lm_M_177 im_161 is_161 (by decide +kernel) k1
theorem b_M_fewest_46 {X : aX} {d : Nat} {post : aO} {vi : Nat → Nat → Int32} {vl : Nat → Nat → Int64} {x1 x2 x3 x4 x5 x6 y0 : Int32} {o7 : Option Value} (k1 : ¬ y0 = 0 → wp X (d + 1) k_M_fewest 0 0 53 [some (.ref 95), some (.int x1), some (.int x2), some (.int x3), some (.int x4), some (.int x5), some (.int x6), o7] [] (mk vi vl) post) (k2 : y0 = 0 → wp X (d + 1) k_M_fewest 0 0 49 [some (.ref 95), some (.int x1), some (.int x2), some (.int x3), some (.int x4), some (.int x5), some (.int x6), o7] [] (mk vi vl) post) : wp X (d + 1) k_M_fewest 0 0 46 [some (.ref 95), some (.int x1), some (.int x2), some (.int x3), some (.int x4), some (.int x5), some (.int x6), o7] [.int y0] (mk vi vl) post :=
  wr_if_ne (off := 7) (t := 53) (by decide +kernel) (by decide) k1 k2
theorem b_M_fewest_49 {X : aX} {d : Nat} {post : aO} {vi : Nat → Nat → Int32} {vl : Nat → Nat → Int64} {x1 x2 x3 x4 x5 x6 : Int32} {o7 : Option Value} (k1 : wp X (d + 1) k_M_fewest 0 0 54 [some (.ref 95), some (.int x1), some (.int x2), some (.int x3), some (.int x4), some (.int x5), some (.int x6), o7] [.int (1 : Int32)] (mk vi vl) post) : wp X (d + 1) k_M_fewest 0 0 49 [some (.ref 95), some (.int x1), some (.int x2), some (.int x3), some (.int x4), some (.int x5), some (.int x6), o7] [] (mk vi vl) post :=
  wr_iconst (n := 1) (v := (1 : Int32)) (by decide +kernel) (by decide) <|
  wr_goto (off := 4) (t := 54) (by decide +kernel) (by decide) k1
theorem b_M_fewest_53 {X : aX} {d : Nat} {post : aO} {vi : Nat → Nat → Int32} {vl : Nat → Nat → Int64} {x1 x2 x3 x4 x5 x6 : Int32} {o7 : Option Value} (k1 : wp X (d + 1) k_M_fewest 0 0 54 [some (.ref 95), some (.int x1), some (.int x2), some (.int x3), some (.int x4), some (.int x5), some (.int x6), o7] [.int (0 : Int32)] (mk vi vl) post) : wp X (d + 1) k_M_fewest 0 0 53 [some (.ref 95), some (.int x1), some (.int x2), some (.int x3), some (.int x4), some (.int x5), some (.int x6), o7] [] (mk vi vl) post :=
  wr_iconst (n := 0) (v := (0 : Int32)) (by decide +kernel) (by decide) <|
  k1
theorem b_M_fewest_54 {X : aX} {d : Nat} {post : aO} {vi : Nat → Nat → Int32} {vl : Nat → Nat → Int64} {x1 x2 x3 x4 x5 x6 y0 : Int32} {o7 : Option Value} (k1 : y0 = 0 → wp X (d + 1) k_M_fewest 0 0 92 [some (.ref 95), some (.int x1), some (.int x2), some (.int x3), some (.int x4), some (.int x5), some (.int x6), some (.int y0)] [] (mk vi vl) post) (k2 : ¬ y0 = 0 → wp X (d + 1) k_M_fewest 0 0 61 [some (.ref 95), some (.int x1), some (.int x2), some (.int x3), some (.int x4), some (.int x5), some (.int x6), some (.int y0)] [] (mk vi vl) post) : wp X (d + 1) k_M_fewest 0 0 54 [some (.ref 95), some (.int x1), some (.int x2), some (.int x3), some (.int x4), some (.int x5), some (.int x6), o7] [.int y0] (mk vi vl) post :=
  wr_istore (i := 7) (by decide +kernel) (by decide) <|
  wr_iload (i := 7) (by decide +kernel) rfl <|
  wr_if_eq (off := 34) (t := 92) (by decide +kernel) (by decide) k1 k2
theorem b_M_fewest_61 {X : aX} {d : Nat} {post : aO} {vi : Nat → Nat → Int32} {vl : Nat → Nat → Int64} {x1 x2 x3 x4 x5 x6 x7 : Int32} (k1 : ¬ x2 = (-9 : Int32) → wp X (d + 1) k_M_fewest 0 0 78 [some (.ref 95), some (.int x1), some (.int x2), some (.int x3), some (.int x4), some (.int x5), some (.int x6), some (.int x7)] [] (mk vi vl) post) (k2 : x2 = (-9 : Int32) → wp X (d + 1) k_M_fewest 0 0 67 [some (.ref 95), some (.int x1), some (.int x2), some (.int x3), some (.int x4), some (.int x5), some (.int x6), some (.int x7)] [] (mk vi vl) post) : wp X (d + 1) k_M_fewest 0 0 61 [some (.ref 95), some (.int x1), some (.int x2), some (.int x3), some (.int x4), some (.int x5), some (.int x6), some (.int x7)] [] (mk vi vl) post :=
  wr_iload_n (q := 2) (by decide +kernel) rfl rfl <|
  wr_bipush (n := -9) (v := (-9 : Int32)) (by decide +kernel) (by decide) <|
  wr_icmp_ne (off := 14) (t := 78) (by decide +kernel) (by decide) k1 k2
theorem b_M_fewest_67 {X : aX} {d : Nat} {post : aO} {vi : Nat → Nat → Int32} {vl : Nat → Nat → Int64} {x1 x2 x3 x4 x5 x6 x7 : Int32} (k1 : CallOk X d 0 0 k_M_yearsOf [.ref 95, .int x1] (mk vi vl) (fun r N' => wp X (d + 1) k_M_fewest 0 0 72 [some (.ref 95), some (.int x1), some (.int x2), some (.int x3), some (.int x4), some (.int x5), some (.int x6), some (.int x7)] (pR r []) N' post)) : wp X (d + 1) k_M_fewest 0 0 67 [some (.ref 95), some (.int x1), some (.int x2), some (.int x3), some (.int x4), some (.int x5), some (.int x6), some (.int x7)] [] (mk vi vl) post :=
  wr_aload_n (q := 0) (by decide +kernel) rfl rfl <|
  wr_iload_n (q := 1) (by decide +kernel) rfl rfl <|
  wr_invV (a := 95) (ci := 4) (mid2 := 152) (idx := 139) (b1 := 0) (b2 := 0) (c1 := 0) (c2 := 0) (as := [.int x1]) (st := []) pl_152 rfl (Nat.le_of_ble_eq_true rfl) rfl rfl lq_95 sq_95 (by decide) rfl lm_M_139 im_152 is_152 (by decide +kernel) k1
theorem b_M_fewest_72 {X : aX} {d : Nat} {post : aO} {vi : Nat → Nat → Int32} {vl : Nat → Nat → Int64} {x1 x2 x3 x4 x5 x6 x7 y0 : Int32} (k1 : ¬ y0 = 0 → wp X (d + 1) k_M_fewest 0 0 92 [some (.ref 95), some (.int x1), some (.int x2), some (.int x3), some (.int x4), some (.int x5), some (.int x6), some (.int x7)] [] (mk vi vl) post) (k2 : y0 = 0 → wp X (d + 1) k_M_fewest 0 0 75 [some (.ref 95), some (.int x1), some (.int x2), some (.int x3), some (.int x4), some (.int x5), some (.int x6), some (.int x7)] [] (mk vi vl) post) : wp X (d + 1) k_M_fewest 0 0 72 [some (.ref 95), some (.int x1), some (.int x2), some (.int x3), some (.int x4), some (.int x5), some (.int x6), some (.int x7)] [.int y0] (mk vi vl) post :=
  wr_if_ne (off := 20) (t := 92) (by decide +kernel) (by decide) k1 k2
theorem b_M_fewest_75 {X : aX} {d : Nat} {post : aO} {vi : Nat → Nat → Int32} {vl : Nat → Nat → Int64} {x1 x2 x3 x4 x5 x6 x7 : Int32} (k1 : wp X (d + 1) k_M_fewest 0 0 88 [some (.ref 95), some (.int x1), some (.int x2), some (.int x3), some (.int x4), some (.int x5), some (.int x6), some (.int x7)] [] (mk vi vl) post) : wp X (d + 1) k_M_fewest 0 0 75 [some (.ref 95), some (.int x1), some (.int x2), some (.int x3), some (.int x4), some (.int x5), some (.int x6), some (.int x7)] [] (mk vi vl) post :=
  wr_goto (off := 13) (t := 88) (by decide +kernel) (by decide) k1
theorem b_M_fewest_78 {X : aX} {d : Nat} {post : aO} {vi : Nat → Nat → Int32} {vl : Nat → Nat → Int64} {x1 x2 x3 x4 x5 x6 x7 : Int32} (q1 : vp_in x2 5) (k1 : ¬ (vi 104 x2.toNatClampNeg) = x1 → wp X (d + 1) k_M_fewest 0 0 92 [some (.ref 95), some (.int x1), some (.int x2), some (.int x3), some (.int x4), some (.int x5), some (.int x6), some (.int x7)] [] (mk vi vl) post) (k2 : (vi 104 x2.toNatClampNeg) = x1 → wp X (d + 1) k_M_fewest 0 0 88 [some (.ref 95), some (.int x1), some (.int x2), some (.int x3), some (.int x4), some (.int x5), some (.int x6), some (.int x7)] [] (mk vi vl) post) : wp X (d + 1) k_M_fewest 0 0 78 [some (.ref 95), some (.int x1), some (.int x2), some (.int x3), some (.int x4), some (.int x5), some (.int x6), some (.int x7)] [] (mk vi vl) post :=
  wr_aload_n (q := 0) (by decide +kernel) rfl rfl <|
  wr_getR2 (b := 104) (ci := 4) (k0 := 14) (idx := 38) lq_95 sq_95 (by decide) (by decide) lf_M_38 rfl vq_95_14 lq_104 (by decide +kernel) <|
  wr_iload_n (q := 2) (by decide +kernel) rfl rfl <|
  wr_iald lq_104 sq_104 q1 (by decide +kernel) <|
  wr_iload_n (q := 1) (by decide +kernel) rfl rfl <|
  wr_icmp_ne (off := 7) (t := 92) (by decide +kernel) (by decide) k1 k2
theorem b_M_fewest_88 {X : aX} {d : Nat} {post : aO} {vi : Nat → Nat → Int32} {vl : Nat → Nat → Int64} {x1 x2 x3 x4 x5 x6 x7 : Int32} (k1 : wp X (d + 1) k_M_fewest 0 0 93 [some (.ref 95), some (.int x1), some (.int x2), some (.int x3), some (.int x4), some (.int x5), some (.int x6), some (.int x7)] [.int (1 : Int32)] (mk vi vl) post) : wp X (d + 1) k_M_fewest 0 0 88 [some (.ref 95), some (.int x1), some (.int x2), some (.int x3), some (.int x4), some (.int x5), some (.int x6), some (.int x7)] [] (mk vi vl) post :=
  wr_iconst (n := 1) (v := (1 : Int32)) (by decide +kernel) (by decide) <|
  wr_goto (off := 4) (t := 93) (by decide +kernel) (by decide) k1
theorem b_M_fewest_92 {X : aX} {d : Nat} {post : aO} {vi : Nat → Nat → Int32} {vl : Nat → Nat → Int64} {x1 x2 x3 x4 x5 x6 x7 : Int32} (k1 : wp X (d + 1) k_M_fewest 0 0 93 [some (.ref 95), some (.int x1), some (.int x2), some (.int x3), some (.int x4), some (.int x5), some (.int x6), some (.int x7)] [.int (0 : Int32)] (mk vi vl) post) : wp X (d + 1) k_M_fewest 0 0 92 [some (.ref 95), some (.int x1), some (.int x2), some (.int x3), some (.int x4), some (.int x5), some (.int x6), some (.int x7)] [] (mk vi vl) post :=
  wr_iconst (n := 0) (v := (0 : Int32)) (by decide +kernel) (by decide) <|
  k1
theorem b_M_fewest_93 {X : aX} {d : Nat} {post : aO} {vi : Nat → Nat → Int32} {vl : Nat → Nat → Int64} {x1 x2 x3 x4 x5 x6 x7 y0 : Int32} (k1 : y0 = 0 → wp X (d + 1) k_M_fewest 0 0 106 [some (.ref 95), some (.int x1), some (.int x2), some (.int x3), some (.int x4), some (.int x5), some (.int x6), some (.int y0)] [.ref 95] (mk vi vl) post) (k2 : ¬ y0 = 0 → wp X (d + 1) k_M_fewest 0 0 101 [some (.ref 95), some (.int x1), some (.int x2), some (.int x3), some (.int x4), some (.int x5), some (.int x6), some (.int y0)] [.ref 95] (mk vi vl) post) : wp X (d + 1) k_M_fewest 0 0 93 [some (.ref 95), some (.int x1), some (.int x2), some (.int x3), some (.int x4), some (.int x5), some (.int x6), some (.int x7)] [.int y0] (mk vi vl) post :=
  wr_istore (i := 7) (by decide +kernel) (by decide) <|
  wr_aload_n (q := 0) (by decide +kernel) rfl rfl <|
  wr_iload (i := 7) (by decide +kernel) rfl <|
  wr_if_eq (off := 8) (t := 106) (by decide +kernel) (by decide) k1 k2
theorem b_M_fewest_101 {X : aX} {d : Nat} {post : aO} {vi : Nat → Nat → Int32} {vl : Nat → Nat → Int64} {x1 x2 x3 x4 x5 x6 x7 : Int32} (k1 : wp X (d + 1) k_M_fewest 0 0 110 [some (.ref 95), some (.int x1), some (.int x2), some (.int x3), some (.int x4), some (.int x5), some (.int x6), some (.int x7)] [.int x5, .ref 95] (mk vi vl) post) : wp X (d + 1) k_M_fewest 0 0 101 [some (.ref 95), some (.int x1), some (.int x2), some (.int x3), some (.int x4), some (.int x5), some (.int x6), some (.int x7)] [.ref 95] (mk vi vl) post :=
  wr_iload (i := 5) (by decide +kernel) rfl <|
  wr_goto (off := 7) (t := 110) (by decide +kernel) (by decide) k1
theorem b_M_fewest_106 {X : aX} {d : Nat} {post : aO} {vi : Nat → Nat → Int32} {vl : Nat → Nat → Int64} {x1 x2 x3 x4 x5 x6 x7 : Int32} (k1 : wp X (d + 1) k_M_fewest 0 0 110 [some (.ref 95), some (.int x1), some (.int x2), some (.int x3), some (.int x4), some (.int x5), some (.int x6), some (.int x7)] [.int (vi 95 18), .ref 95] (mk vi vl) post) : wp X (d + 1) k_M_fewest 0 0 106 [some (.ref 95), some (.int x1), some (.int x2), some (.int x3), some (.int x4), some (.int x5), some (.int x6), some (.int x7)] [.ref 95] (mk vi vl) post :=
  wr_aload_n (q := 0) (by decide +kernel) rfl rfl <|
  wr_getI (ci := 4) (k0 := 18) (idx := 200) lq_95 sq_95 (by decide) (by decide) lf_M_200 (Or.inl rfl) (by decide +kernel) <|
  k1
theorem b_M_fewest_110 {X : aX} {d : Nat} {post : aO} {vi : Nat → Nat → Int32} {vl : Nat → Nat → Int64} {x1 x2 x3 x4 x5 x6 x7 y1 : Int32} (k1 : ∀ w, w = up2 vi 95 18 y1 → wp X (d + 1) k_M_fewest 0 0 113 [some (.ref 95), some (.int x1), some (.int x2), some (.int x3), some (.int x4), some (.int x5), some (.int x6), some (.int x7)] [] (mk w vl) post) : wp X (d + 1) k_M_fewest 0 0 110 [some (.ref 95), some (.int x1), some (.int x2), some (.int x3), some (.int x4), some (.int x5), some (.int x6), some (.int x7)] [.int y1, .ref 95] (mk vi vl) post :=
  wr_putI (ci := 4) (k0 := 18) (idx := 200) lq_95 sq_95 (by decide) (by decide) lf_M_200 rfl (by decide +kernel) <|
  k1 _ rfl
theorem b_M_fewest_113 {X : aX} {d : Nat} {post : aO} {vi : Nat → Nat → Int32} {vl : Nat → Nat → Int64} {x1 x2 x3 x4 x5 x6 x7 : Int32} (k1 : x7 = 0 → wp X (d + 1) k_M_fewest 0 0 123 [some (.ref 95), some (.int x1), some (.int x2), some (.int x3), some (.int x4), some (.int x5), some (.int x6), some (.int x7)] [] (mk vi vl) post) (k2 : ¬ x7 = 0 → wp X (d + 1) k_M_fewest 0 0 118 [some (.ref 95), some (.int x1), some (.int x2), some (.int x3), some (.int x4), some (.int x5), some (.int x6), some (.int x7)] [] (mk vi vl) post) : wp X (d + 1) k_M_fewest 0 0 113 [some (.ref 95), some (.int x1), some (.int x2), some (.int x3), some (.int x4), some (.int x5), some (.int x6), some (.int x7)] [] (mk vi vl) post :=
  wr_iload (i := 7) (by decide +kernel) rfl <|
  wr_if_eq (off := 8) (t := 123) (by decide +kernel) (by decide) k1 k2
theorem b_M_fewest_118 {X : aX} {d : Nat} {post : aO} {vi : Nat → Nat → Int32} {vl : Nat → Nat → Int64} {x1 x2 x3 x4 x5 x6 x7 : Int32} (k1 : wp X (d + 1) k_M_fewest 0 0 124 [some (.ref 95), some (.int x1), some (.int x2), some (.int x3), some (.int x4), some (.int x5), some (.int x6), some (.int x7)] [.int x6] (mk vi vl) post) : wp X (d + 1) k_M_fewest 0 0 118 [some (.ref 95), some (.int x1), some (.int x2), some (.int x3), some (.int x4), some (.int x5), some (.int x6), some (.int x7)] [] (mk vi vl) post :=
  wr_iload (i := 6) (by decide +kernel) rfl <|
  wr_goto (off := 4) (t := 124) (by decide +kernel) (by decide) k1
theorem b_M_fewest_123 {X : aX} {d : Nat} {post : aO} {vi : Nat → Nat → Int32} {vl : Nat → Nat → Int64} {x1 x2 x3 x4 x5 x6 x7 : Int32} (k1 : wp X (d + 1) k_M_fewest 0 0 124 [some (.ref 95), some (.int x1), some (.int x2), some (.int x3), some (.int x4), some (.int x5), some (.int x6), some (.int x7)] [.int x3] (mk vi vl) post) : wp X (d + 1) k_M_fewest 0 0 123 [some (.ref 95), some (.int x1), some (.int x2), some (.int x3), some (.int x4), some (.int x5), some (.int x6), some (.int x7)] [] (mk vi vl) post :=
  wr_iload_n (q := 3) (by decide +kernel) rfl rfl <|
  k1
theorem b_M_fewest_124 {X : aX} {d : Nat} {post : aO} {vi : Nat → Nat → Int32} {vl : Nat → Nat → Int64} {x1 x2 x3 x4 x5 x6 x7 y0 : Int32} (k1 : wp X (d + 1) k_M_fewest 0 0 125 [some (.ref 95), some (.int x1), some (.int x2), some (.int y0), some (.int x4), some (.int x5), some (.int x6), some (.int x7)] [] (mk vi vl) post) : wp X (d + 1) k_M_fewest 0 0 124 [some (.ref 95), some (.int x1), some (.int x2), some (.int x3), some (.int x4), some (.int x5), some (.int x6), some (.int x7)] [.int y0] (mk vi vl) post :=
  wr_istore_n (q := 3) (by decide +kernel) rfl (by decide) <|
  k1
theorem b_M_fewest_125 {X : aX} {d : Nat} {post : aO} {vi : Nat → Nat → Int32} {vl : Nat → Nat → Int64} {x1 x2 x3 x4 x5 x6 : Int32} {o7 : Option Value} (k1 : CallOk X d 0 0 k_M_putsBack [.ref 95] (mk vi vl) (fun r N' => wp X (d + 1) k_M_fewest 0 0 129 [some (.ref 95), some (.int x1), some (.int x2), some (.int x3), some (.int x4), some (.int x5), some (.int x6), o7] (pR r []) N' post)) : wp X (d + 1) k_M_fewest 0 0 125 [some (.ref 95), some (.int x1), some (.int x2), some (.int x3), some (.int x4), some (.int x5), some (.int x6), o7] [] (mk vi vl) post :=
  wr_aload_n (q := 0) (by decide +kernel) rfl rfl <|
  wr_invV (a := 95) (ci := 4) (mid2 := 172) (idx := 187) (b1 := 0) (b2 := 0) (c1 := 0) (c2 := 0) (as := []) (st := []) pl_172 rfl (Nat.le_of_ble_eq_true rfl) rfl rfl lq_95 sq_95 (by decide) rfl lm_M_187 im_172 is_172 (by decide +kernel) k1
theorem b_M_fewest_129 {X : aX} {d : Nat} {post : aO} {vi : Nat → Nat → Int32} {vl : Nat → Nat → Int64} {x1 x2 x3 x4 x5 x6 : Int32} {o7 : Option Value} (k1 : wp X (d + 1) k_M_fewest 0 0 16 [some (.ref 95), some (.int x1), some (.int x2), some (.int x3), some (.int x4), some (.int (x5 + (1 : Int32))), some (.int x6), o7] [] (mk vi vl) post) : wp X (d + 1) k_M_fewest 0 0 129 [some (.ref 95), some (.int x1), some (.int x2), some (.int x3), some (.int x4), some (.int x5), some (.int x6), o7] [] (mk vi vl) post :=
  wr_iinc (i := 5) (n := 1) (v := (1 : Int32)) (by decide +kernel) rfl (by decide) (by decide) <|
  wr_goto (off := -116) (t := 16) (by decide +kernel) (by decide) k1
theorem b_M_fewest_135 {X : aX} {d : Nat} {post : aO} {vi : Nat → Nat → Int32} {vl : Nat → Nat → Int64} {x1 x2 x3 x4 x5 : Int32} {o6 o7 : Option Value} (k1 : post (some (.int x3)) (mk vi vl)) : wp X (d + 1) k_M_fewest 0 0 135 [some (.ref 95), some (.int x1), some (.int x2), some (.int x3), some (.int x4), some (.int x5), o6, o7] [] (mk vi vl) post :=
  wr_iload_n (q := 3) (by decide +kernel) rfl rfl <|
  wr_ret (r := some (.int x3)) (Or.inr (Or.inl ⟨_, rfl, (by decide +kernel), (Or.inl rfl)⟩)) k1
theorem b_M_plans_0 {X : aX} {d : Nat} {post : aO} {vi : Nat → Nat → Int32} {vl : Nat → Nat → Int64}  (k1 : wp X (d + 1) k_M_plans 0 0 4 [some (.ref 95), some (.int (1 : Int32)), some (.int (0 : Int32))] [] (mk vi vl) post) : wp X (d + 1) k_M_plans 0 0 0 [some (.ref 95), none, none] [] (mk vi vl) post :=
  wr_iconst (n := 1) (v := (1 : Int32)) (by decide +kernel) (by decide) <|
  wr_istore_n (q := 1) (by decide +kernel) rfl (by decide) <|
  wr_iconst (n := 0) (v := (0 : Int32)) (by decide +kernel) (by decide) <|
  wr_istore_n (q := 2) (by decide +kernel) rfl (by decide) <|
  k1
theorem b_M_plans_4 {X : aX} {d : Nat} {post : aO} {vi : Nat → Nat → Int32} {vl : Nat → Nat → Int64} {x1 x2 : Int32} (k1 : (vi 96 0) ≤ x2 → wp X (d + 1) k_M_plans 0 0 25 [some (.ref 95), some (.int x1), some (.int x2)] [] (mk vi vl) post) (k2 : ¬ (vi 96 0) ≤ x2 → wp X (d + 1) k_M_plans 0 0 14 [some (.ref 95), some (.int x1), some (.int x2)] [] (mk vi vl) post) : wp X (d + 1) k_M_plans 0 0 4 [some (.ref 95), some (.int x1), some (.int x2)] [] (mk vi vl) post :=
  wr_iload_n (q := 2) (by decide +kernel) rfl rfl <|
  wr_aload_n (q := 0) (by decide +kernel) rfl rfl <|
  wr_getR2 (b := 96) (ci := 4) (k0 := 0) (idx := 7) lq_95 sq_95 (by decide) (by decide) lf_M_7 rfl vq_95_0 lq_96 (by decide +kernel) <|
  wr_iconst (n := 0) (v := (0 : Int32)) (by decide +kernel) (by decide) <|
  wr_iald lq_96 sq_96 (by unfold vp_in; decide) (by decide +kernel) <|
  wr_icmp_ge (off := 14) (t := 25) (by decide +kernel) (by decide) k1 k2
theorem b_M_plans_14 {X : aX} {d : Nat} {post : aO} {vi : Nat → Nat → Int32} {vl : Nat → Nat → Int64} {x1 x2 : Int32} (k1 : wp X (d + 1) k_M_plans 0 0 4 [some (.ref 95), some (.int (x1 * (7 : Int32))), some (.int (x2 + (1 : Int32)))] [] (mk vi vl) post) : wp X (d + 1) k_M_plans 0 0 14 [some (.ref 95), some (.int x1), some (.int x2)] [] (mk vi vl) post :=
  wr_iload_n (q := 1) (by decide +kernel) rfl rfl <|
  wr_bipush (n := 7) (v := (7 : Int32)) (by decide +kernel) (by decide) <|
  wr_imul (by decide +kernel) <|
  wr_istore_n (q := 1) (by decide +kernel) rfl (by decide) <|
  wr_iinc (i := 2) (n := 1) (v := (1 : Int32)) (by decide +kernel) rfl (by decide) (by decide) <|
  wr_goto (off := -18) (t := 4) (by decide +kernel) (by decide) k1
theorem b_M_plans_25 {X : aX} {d : Nat} {post : aO} {vi : Nat → Nat → Int32} {vl : Nat → Nat → Int64} {x1 x2 : Int32} (k1 : post (some (.int x1)) (mk vi vl)) : wp X (d + 1) k_M_plans 0 0 25 [some (.ref 95), some (.int x1), some (.int x2)] [] (mk vi vl) post :=
  wr_iload_n (q := 1) (by decide +kernel) rfl rfl <|
  wr_ret (r := some (.int x1)) (Or.inr (Or.inl ⟨_, rfl, (by decide +kernel), (Or.inl rfl)⟩)) k1
theorem b_M_does_0 {X : aX} {d : Nat} {post : aO} {vi : Nat → Nat → Int32} {vl : Nat → Nat → Int64} {x1 : Int32} (k1 : wp X (d + 1) k_M_does 0 0 17 [some (.ref 95), some (.int x1), some (.int x1), some (.int (0 : Int32)), some (.int (1 : Int32)), some (.int ((vi 96 0) - (1 : Int32)))] [] (mk vi vl) post) : wp X (d + 1) k_M_does 0 0 0 [some (.ref 95), some (.int x1), none, none, none, none] [] (mk vi vl) post :=
  wr_iload_n (q := 1) (by decide +kernel) rfl rfl <|
  wr_istore_n (q := 2) (by decide +kernel) rfl (by decide) <|
  wr_iconst (n := 0) (v := (0 : Int32)) (by decide +kernel) (by decide) <|
  wr_istore_n (q := 3) (by decide +kernel) rfl (by decide) <|
  wr_iconst (n := 1) (v := (1 : Int32)) (by decide +kernel) (by decide) <|
  wr_istore (i := 4) (by decide +kernel) (by decide) <|
  wr_aload_n (q := 0) (by decide +kernel) rfl rfl <|
  wr_getR2 (b := 96) (ci := 4) (k0 := 0) (idx := 7) lq_95 sq_95 (by decide) (by decide) lf_M_7 rfl vq_95_0 lq_96 (by decide +kernel) <|
  wr_iconst (n := 0) (v := (0 : Int32)) (by decide +kernel) (by decide) <|
  wr_iald lq_96 sq_96 (by unfold vp_in; decide) (by decide +kernel) <|
  wr_iconst (n := 1) (v := (1 : Int32)) (by decide +kernel) (by decide) <|
  wr_isub (by decide +kernel) <|
  wr_istore (i := 5) (by decide +kernel) (by decide) <|
  k1
theorem b_M_does_17 {X : aX} {d : Nat} {post : aO} {vi : Nat → Nat → Int32} {vl : Nat → Nat → Int64} {x1 x2 x3 x4 x5 : Int32} (k1 : x5 < 0 → wp X (d + 1) k_M_does 0 0 92 [some (.ref 95), some (.int x1), some (.int x2), some (.int x3), some (.int x4), some (.int x5)] [] (mk vi vl) post) (k2 : ¬ x5 < 0 → wp X (d + 1) k_M_does 0 0 22 [some (.ref 95), some (.int x1), some (.int x2), some (.int x3), some (.int x4), some (.int x5)] [] (mk vi vl) post) : wp X (d + 1) k_M_does 0 0 17 [some (.ref 95), some (.int x1), some (.int x2), some (.int x3), some (.int x4), some (.int x5)] [] (mk vi vl) post :=
  wr_iload (i := 5) (by decide +kernel) rfl <|
  wr_if_lt (off := 73) (t := 92) (by decide +kernel) (by decide) k1 k2
theorem b_M_does_22 {X : aX} {d : Nat} {post : aO} {vi : Nat → Nat → Int32} {vl : Nat → Nat → Int64} {x1 x2 x3 x4 x5 : Int32} (q1 : vp_in x5 5) (k1 : ∀ w, w = up2 vi 106 x5.toNatClampNeg (x2 - x2 / (7 : Int32) * (7 : Int32)) → wp X (d + 1) k_M_does 0 0 33 [some (.ref 95), some (.int x1), some (.int x2), some (.int x3), some (.int x4), some (.int x5)] [] (mk w vl) post) : wp X (d + 1) k_M_does 0 0 22 [some (.ref 95), some (.int x1), some (.int x2), some (.int x3), some (.int x4), some (.int x5)] [] (mk vi vl) post :=
  wr_aload_n (q := 0) (by decide +kernel) rfl rfl <|
  wr_getR2 (b := 106) (ci := 4) (k0 := 17) (idx := 48) lq_95 sq_95 (by decide) (by decide) lf_M_48 rfl vq_95_17 lq_106 (by decide +kernel) <|
  wr_iload (i := 5) (by decide +kernel) rfl <|
  wr_iload_n (q := 2) (by decide +kernel) rfl rfl <|
  wr_bipush (n := 7) (v := (7 : Int32)) (by decide +kernel) (by decide) <|
  wr_irem (by decide +kernel) (by decide) <|
  wr_iast lq_106 sq_106 q1 (by decide +kernel) <|
  k1 _ rfl
theorem b_M_does_33 {X : aX} {d : Nat} {post : aO} {vi : Nat → Nat → Int32} {vl : Nat → Nat → Int64} {x1 x2 x3 x4 x5 : Int32} (k1 : x4 = 0 → wp X (d + 1) k_M_does 0 0 63 [some (.ref 95), some (.int x1), some (.int (x2 / (7 : Int32))), some (.int x3), some (.int x4), some (.int x5)] [] (mk vi vl) post) (k2 : ¬ x4 = 0 → wp X (d + 1) k_M_does 0 0 43 [some (.ref 95), some (.int x1), some (.int (x2 / (7 : Int32))), some (.int x3), some (.int x4), some (.int x5)] [] (mk vi vl) post) : wp X (d + 1) k_M_does 0 0 33 [some (.ref 95), some (.int x1), some (.int x2), some (.int x3), some (.int x4), some (.int x5)] [] (mk vi vl) post :=
  wr_iload_n (q := 2) (by decide +kernel) rfl rfl <|
  wr_bipush (n := 7) (v := (7 : Int32)) (by decide +kernel) (by decide) <|
  wr_idiv (by decide +kernel) (by decide) <|
  wr_istore_n (q := 2) (by decide +kernel) rfl (by decide) <|
  wr_iload (i := 4) (by decide +kernel) rfl <|
  wr_if_eq (off := 23) (t := 63) (by decide +kernel) (by decide) k1 k2
theorem b_M_does_43 {X : aX} {d : Nat} {post : aO} {vi : Nat → Nat → Int32} {vl : Nat → Nat → Int64} {x1 x2 x3 x4 x5 : Int32} (q1 : vp_in x5 5) (k1 : CallOk X d 0 0 k_M_canBe [.ref 95, .int x5, .int (vi 106 x5.toNatClampNeg)] (mk vi vl) (fun r N' => wp X (d + 1) k_M_does 0 0 56 [some (.ref 95), some (.int x1), some (.int x2), some (.int x3), some (.int x4), some (.int x5)] (pR r []) N' post)) : wp X (d + 1) k_M_does 0 0 43 [some (.ref 95), some (.int x1), some (.int x2), some (.int x3), some (.int x4), some (.int x5)] [] (mk vi vl) post :=
  wr_aload_n (q := 0) (by decide +kernel) rfl rfl <|
  wr_iload (i := 5) (by decide +kernel) rfl <|
  wr_aload_n (q := 0) (by decide +kernel) rfl rfl <|
  wr_getR2 (b := 106) (ci := 4) (k0 := 17) (idx := 48) lq_95 sq_95 (by decide) (by decide) lf_M_48 rfl vq_95_17 lq_106 (by decide +kernel) <|
  wr_iload (i := 5) (by decide +kernel) rfl <|
  wr_iald lq_106 sq_106 q1 (by decide +kernel) <|
  wr_invV (a := 95) (ci := 4) (mid2 := 178) (idx := 190) (b1 := 0) (b2 := 0) (c1 := 0) (c2 := 0) (as := [.int x5, .int (vi 106 x5.toNatClampNeg)]) (st := []) pl_178 rfl (Nat.le_of_ble_eq_true rfl) rfl rfl lq_95 sq_95 (by decide) rfl lm_M_190 im_178 is_178 (by decide +kernel) k1
theorem b_M_does_56 {X : aX} {d : Nat} {post : aO} {vi : Nat → Nat → Int32} {vl : Nat → Nat → Int64} {x1 x2 x3 x4 x5 y0 : Int32} (k1 : y0 = 0 → wp X (d + 1) k_M_does 0 0 63 [some (.ref 95), some (.int x1), some (.int x2), some (.int x3), some (.int x4), some (.int x5)] [] (mk vi vl) post) (k2 : ¬ y0 = 0 → wp X (d + 1) k_M_does 0 0 59 [some (.ref 95), some (.int x1), some (.int x2), some (.int x3), some (.int x4), some (.int x5)] [] (mk vi vl) post) : wp X (d + 1) k_M_does 0 0 56 [some (.ref 95), some (.int x1), some (.int x2), some (.int x3), some (.int x4), some (.int x5)] [.int y0] (mk vi vl) post :=
  wr_if_eq (off := 7) (t := 63) (by decide +kernel) (by decide) k1 k2
theorem b_M_does_59 {X : aX} {d : Nat} {post : aO} {vi : Nat → Nat → Int32} {vl : Nat → Nat → Int64} {x1 x2 x3 x4 x5 : Int32} (k1 : wp X (d + 1) k_M_does 0 0 64 [some (.ref 95), some (.int x1), some (.int x2), some (.int x3), some (.int x4), some (.int x5)] [.int (1 : Int32)] (mk vi vl) post) : wp X (d + 1) k_M_does 0 0 59 [some (.ref 95), some (.int x1), some (.int x2), some (.int x3), some (.int x4), some (.int x5)] [] (mk vi vl) post :=
  wr_iconst (n := 1) (v := (1 : Int32)) (by decide +kernel) (by decide) <|
  wr_goto (off := 4) (t := 64) (by decide +kernel) (by decide) k1
theorem b_M_does_63 {X : aX} {d : Nat} {post : aO} {vi : Nat → Nat → Int32} {vl : Nat → Nat → Int64} {x1 x2 x3 x4 x5 : Int32} (k1 : wp X (d + 1) k_M_does 0 0 64 [some (.ref 95), some (.int x1), some (.int x2), some (.int x3), some (.int x4), some (.int x5)] [.int (0 : Int32)] (mk vi vl) post) : wp X (d + 1) k_M_does 0 0 63 [some (.ref 95), some (.int x1), some (.int x2), some (.int x3), some (.int x4), some (.int x5)] [] (mk vi vl) post :=
  wr_iconst (n := 0) (v := (0 : Int32)) (by decide +kernel) (by decide) <|
  k1
theorem b_M_does_64 {X : aX} {d : Nat} {post : aO} {vi : Nat → Nat → Int32} {vl : Nat → Nat → Int64} {x1 x2 x3 x4 x5 y0 : Int32} (q1 : vp_in x5 5) (k1 : ¬ (vi 106 x5.toNatClampNeg) = (6 : Int32) → wp X (d + 1) k_M_does 0 0 83 [some (.ref 95), some (.int x1), some (.int x2), some (.int x3), some (.int y0), some (.int x5)] [.int x3] (mk vi vl) post) (k2 : (vi 106 x5.toNatClampNeg) = (6 : Int32) → wp X (d + 1) k_M_does 0 0 79 [some (.ref 95), some (.int x1), some (.int x2), some (.int x3), some (.int y0), some (.int x5)] [.int x3] (mk vi vl) post) : wp X (d + 1) k_M_does 0 0 64 [some (.ref 95), some (.int x1), some (.int x2), some (.int x3), some (.int x4), some (.int x5)] [.int y0] (mk vi vl) post :=
  wr_istore (i := 4) (by decide +kernel) (by decide) <|
  wr_iload_n (q := 3) (by decide +kernel) rfl rfl <|
  wr_aload_n (q := 0) (by decide +kernel) rfl rfl <|
  wr_getR2 (b := 106) (ci := 4) (k0 := 17) (idx := 48) lq_95 sq_95 (by decide) (by decide) lf_M_48 rfl vq_95_17 lq_106 (by decide +kernel) <|
  wr_iload (i := 5) (by decide +kernel) rfl <|
  wr_iald lq_106 sq_106 q1 (by decide +kernel) <|
  wr_bipush (n := 6) (v := (6 : Int32)) (by decide +kernel) (by decide) <|
  wr_icmp_ne (off := 7) (t := 83) (by decide +kernel) (by decide) k1 k2
theorem b_M_does_79 {X : aX} {d : Nat} {post : aO} {vi : Nat → Nat → Int32} {vl : Nat → Nat → Int64} {x1 x2 x3 x4 x5 y0 : Int32} (k1 : wp X (d + 1) k_M_does 0 0 84 [some (.ref 95), some (.int x1), some (.int x2), some (.int x3), some (.int x4), some (.int x5)] [.int (0 : Int32), .int y0] (mk vi vl) post) : wp X (d + 1) k_M_does 0 0 79 [some (.ref 95), some (.int x1), some (.int x2), some (.int x3), some (.int x4), some (.int x5)] [.int y0] (mk vi vl) post :=
  wr_iconst (n := 0) (v := (0 : Int32)) (by decide +kernel) (by decide) <|
  wr_goto (off := 4) (t := 84) (by decide +kernel) (by decide) k1
theorem b_M_does_83 {X : aX} {d : Nat} {post : aO} {vi : Nat → Nat → Int32} {vl : Nat → Nat → Int64} {x1 x2 x3 x4 x5 y0 : Int32} (k1 : wp X (d + 1) k_M_does 0 0 84 [some (.ref 95), some (.int x1), some (.int x2), some (.int x3), some (.int x4), some (.int x5)] [.int (1 : Int32), .int y0] (mk vi vl) post) : wp X (d + 1) k_M_does 0 0 83 [some (.ref 95), some (.int x1), some (.int x2), some (.int x3), some (.int x4), some (.int x5)] [.int y0] (mk vi vl) post :=
  wr_iconst (n := 1) (v := (1 : Int32)) (by decide +kernel) (by decide) <|
  k1
theorem b_M_does_84 {X : aX} {d : Nat} {post : aO} {vi : Nat → Nat → Int32} {vl : Nat → Nat → Int64} {x1 x2 x3 x4 x5 y0 y1 : Int32} (k1 : wp X (d + 1) k_M_does 0 0 17 [some (.ref 95), some (.int x1), some (.int x2), some (.int (y0 + y1)), some (.int x4), some (.int (x5 + (-1 : Int32)))] [] (mk vi vl) post) : wp X (d + 1) k_M_does 0 0 84 [some (.ref 95), some (.int x1), some (.int x2), some (.int x3), some (.int x4), some (.int x5)] [.int y1, .int y0] (mk vi vl) post :=
  wr_iadd (by decide +kernel) <|
  wr_istore_n (q := 3) (by decide +kernel) rfl (by decide) <|
  wr_iinc (i := 5) (n := -1) (v := (-1 : Int32)) (by decide +kernel) rfl (by decide) (by decide) <|
  wr_goto (off := -72) (t := 17) (by decide +kernel) (by decide) k1
theorem b_M_does_92 {X : aX} {d : Nat} {post : aO} {vi : Nat → Nat → Int32} {vl : Nat → Nat → Int64} {x1 x2 x3 x4 x5 : Int32} (k1 : wp X (d + 1) k_M_does 0 0 95 [some (.ref 95), some (.int x1), some (.int x2), some (.int x3), some (.int x4), some (.int (0 : Int32))] [] (mk vi vl) post) : wp X (d + 1) k_M_does 0 0 92 [some (.ref 95), some (.int x1), some (.int x2), some (.int x3), some (.int x4), some (.int x5)] [] (mk vi vl) post :=
  wr_iconst (n := 0) (v := (0 : Int32)) (by decide +kernel) (by decide) <|
  wr_istore (i := 5) (by decide +kernel) (by decide) <|
  k1
theorem b_M_does_95 {X : aX} {d : Nat} {post : aO} {vi : Nat → Nat → Int32} {vl : Nat → Nat → Int64} {x1 x2 x3 x4 x5 : Int32} (k1 : (vi 96 0) ≤ x5 → wp X (d + 1) k_M_does 0 0 165 [some (.ref 95), some (.int x1), some (.int x2), some (.int x3), some (.int x4), some (.int x5)] [] (mk vi vl) post) (k2 : ¬ (vi 96 0) ≤ x5 → wp X (d + 1) k_M_does 0 0 106 [some (.ref 95), some (.int x1), some (.int x2), some (.int x3), some (.int x4), some (.int x5)] [] (mk vi vl) post) : wp X (d + 1) k_M_does 0 0 95 [some (.ref 95), some (.int x1), some (.int x2), some (.int x3), some (.int x4), some (.int x5)] [] (mk vi vl) post :=
  wr_iload (i := 5) (by decide +kernel) rfl <|
  wr_aload_n (q := 0) (by decide +kernel) rfl rfl <|
  wr_getR2 (b := 96) (ci := 4) (k0 := 0) (idx := 7) lq_95 sq_95 (by decide) (by decide) lf_M_7 rfl vq_95_0 lq_96 (by decide +kernel) <|
  wr_iconst (n := 0) (v := (0 : Int32)) (by decide +kernel) (by decide) <|
  wr_iald lq_96 sq_96 (by unfold vp_in; decide) (by decide +kernel) <|
  wr_icmp_ge (off := 62) (t := 165) (by decide +kernel) (by decide) k1 k2
theorem b_M_does_106 {X : aX} {d : Nat} {post : aO} {vi : Nat → Nat → Int32} {vl : Nat → Nat → Int64} {x1 x2 x3 x4 x5 : Int32} (k1 : x4 = 0 → wp X (d + 1) k_M_does 0 0 165 [some (.ref 95), some (.int x1), some (.int x2), some (.int x3), some (.int x4), some (.int x5)] [] (mk vi vl) post) (k2 : ¬ x4 = 0 → wp X (d + 1) k_M_does 0 0 111 [some (.ref 95), some (.int x1), some (.int x2), some (.int x3), some (.int x4), some (.int x5)] [] (mk vi vl) post) : wp X (d + 1) k_M_does 0 0 106 [some (.ref 95), some (.int x1), some (.int x2), some (.int x3), some (.int x4), some (.int x5)] [] (mk vi vl) post :=
  wr_iload (i := 4) (by decide +kernel) rfl <|
  wr_if_eq (off := 57) (t := 165) (by decide +kernel) (by decide) k1 k2
theorem b_M_does_111 {X : aX} {d : Nat} {post : aO} {vi : Nat → Nat → Int32} {vl : Nat → Nat → Int64} {x1 x2 x3 x4 x5 : Int32} (q1 : vp_in x5 5) (k1 : ¬ (vi 106 x5.toNatClampNeg) = (5 : Int32) → wp X (d + 1) k_M_does 0 0 135 [some (.ref 95), some (.int x1), some (.int x2), some (.int x3), some (.int x4), some (.int x5)] [] (mk vi vl) post) (k2 : (vi 106 x5.toNatClampNeg) = (5 : Int32) → wp X (d + 1) k_M_does 0 0 122 [some (.ref 95), some (.int x1), some (.int x2), some (.int x3), some (.int x4), some (.int x5)] [] (mk vi vl) post) : wp X (d + 1) k_M_does 0 0 111 [some (.ref 95), some (.int x1), some (.int x2), some (.int x3), some (.int x4), some (.int x5)] [] (mk vi vl) post :=
  wr_aload_n (q := 0) (by decide +kernel) rfl rfl <|
  wr_getR2 (b := 106) (ci := 4) (k0 := 17) (idx := 48) lq_95 sq_95 (by decide) (by decide) lf_M_48 rfl vq_95_17 lq_106 (by decide +kernel) <|
  wr_iload (i := 5) (by decide +kernel) rfl <|
  wr_iald lq_106 sq_106 q1 (by decide +kernel) <|
  wr_iconst (n := 5) (v := (5 : Int32)) (by decide +kernel) (by decide) <|
  wr_icmp_ne (off := 16) (t := 135) (by decide +kernel) (by decide) k1 k2
theorem b_M_does_122 {X : aX} {d : Nat} {post : aO} {vi : Nat → Nat → Int32} {vl : Nat → Nat → Int64} {x1 x2 x3 x4 x5 : Int32} (q1 : vp_in ((2 : Int32) + x5) 5976) (k1 : ∀ w, w = up2 vi 96 ((2 : Int32) + x5).toNatClampNeg (2 : Int32) → wp X (d + 1) k_M_does 0 0 132 [some (.ref 95), some (.int x1), some (.int x2), some (.int x3), some (.int x4), some (.int x5)] [] (mk w vl) post) : wp X (d + 1) k_M_does 0 0 122 [some (.ref 95), some (.int x1), some (.int x2), some (.int x3), some (.int x4), some (.int x5)] [] (mk vi vl) post :=
  wr_aload_n (q := 0) (by decide +kernel) rfl rfl <|
  wr_getR2 (b := 96) (ci := 4) (k0 := 0) (idx := 7) lq_95 sq_95 (by decide) (by decide) lf_M_7 rfl vq_95_0 lq_96 (by decide +kernel) <|
  wr_iconst (n := 2) (v := (2 : Int32)) (by decide +kernel) (by decide) <|
  wr_iload (i := 5) (by decide +kernel) rfl <|
  wr_iadd (by decide +kernel) <|
  wr_iconst (n := 2) (v := (2 : Int32)) (by decide +kernel) (by decide) <|
  wr_iast lq_96 sq_96 q1 (by decide +kernel) <|
  k1 _ rfl
theorem b_M_does_132 {X : aX} {d : Nat} {post : aO} {vi : Nat → Nat → Int32} {vl : Nat → Nat → Int64} {x1 x2 x3 x4 x5 : Int32} (k1 : wp X (d + 1) k_M_does 0 0 159 [some (.ref 95), some (.int x1), some (.int x2), some (.int x3), some (.int x4), some (.int x5)] [] (mk vi vl) post) : wp X (d + 1) k_M_does 0 0 132 [some (.ref 95), some (.int x1), some (.int x2), some (.int x3), some (.int x4), some (.int x5)] [] (mk vi vl) post :=
  wr_goto (off := 27) (t := 159) (by decide +kernel) (by decide) k1
theorem b_M_does_135 {X : aX} {d : Nat} {post : aO} {vi : Nat → Nat → Int32} {vl : Nat → Nat → Int64} {x1 x2 x3 x4 x5 : Int32} (q1 : vp_in x5 5) (k1 : (5 : Int32) ≤ (vi 106 x5.toNatClampNeg) → wp X (d + 1) k_M_does 0 0 159 [some (.ref 95), some (.int x1), some (.int x2), some (.int x3), some (.int x4), some (.int x5)] [] (mk vi vl) post) (k2 : ¬ (5 : Int32) ≤ (vi 106 x5.toNatClampNeg) → wp X (d + 1) k_M_does 0 0 146 [some (.ref 95), some (.int x1), some (.int x2), some (.int x3), some (.int x4), some (.int x5)] [] (mk vi vl) post) : wp X (d + 1) k_M_does 0 0 135 [some (.ref 95), some (.int x1), some (.int x2), some (.int x3), some (.int x4), some (.int x5)] [] (mk vi vl) post :=
  wr_aload_n (q := 0) (by decide +kernel) rfl rfl <|
  wr_getR2 (b := 106) (ci := 4) (k0 := 17) (idx := 48) lq_95 sq_95 (by decide) (by decide) lf_M_48 rfl vq_95_17 lq_106 (by decide +kernel) <|
  wr_iload (i := 5) (by decide +kernel) rfl <|
  wr_iald lq_106 sq_106 q1 (by decide +kernel) <|
  wr_iconst (n := 5) (v := (5 : Int32)) (by decide +kernel) (by decide) <|
  wr_icmp_ge (off := 16) (t := 159) (by decide +kernel) (by decide) k1 k2
theorem b_M_does_146 {X : aX} {d : Nat} {post : aO} {vi : Nat → Nat → Int32} {vl : Nat → Nat → Int64} {x1 x2 x3 x4 x5 : Int32} (q1 : vp_in x5 5) (k1 : CallOk X d 0 0 k_M_sews [.ref 95, .int x5, .int (vi 106 x5.toNatClampNeg)] (mk vi vl) (fun r N' => wp X (d + 1) k_M_does 0 0 159 [some (.ref 95), some (.int x1), some (.int x2), some (.int x3), some (.int x4), some (.int x5)] (pR r []) N' post)) : wp X (d + 1) k_M_does 0 0 146 [some (.ref 95), some (.int x1), some (.int x2), some (.int x3), some (.int x4), some (.int x5)] [] (mk vi vl) post :=
  wr_aload_n (q := 0) (by decide +kernel) rfl rfl <|
  wr_iload (i := 5) (by decide +kernel) rfl <|
  wr_aload_n (q := 0) (by decide +kernel) rfl rfl <|
  wr_getR2 (b := 106) (ci := 4) (k0 := 17) (idx := 48) lq_95 sq_95 (by decide) (by decide) lf_M_48 rfl vq_95_17 lq_106 (by decide +kernel) <|
  wr_iload (i := 5) (by decide +kernel) rfl <|
  wr_iald lq_106 sq_106 q1 (by decide +kernel) <|
  wr_invV (a := 95) (ci := 4) (mid2 := 160) (idx := 174) (b1 := 0) (b2 := 0) (c1 := 0) (c2 := 0) (as := [.int x5, .int (vi 106 x5.toNatClampNeg)]) (st := []) pl_160 rfl (Nat.le_of_ble_eq_true rfl) rfl rfl lq_95 sq_95 (by decide) rfl lm_M_174 im_160 is_160 (by decide +kernel) k1
theorem b_M_does_159 {X : aX} {d : Nat} {post : aO} {vi : Nat → Nat → Int32} {vl : Nat → Nat → Int64} {x1 x2 x3 x4 x5 : Int32} (k1 : wp X (d + 1) k_M_does 0 0 95 [some (.ref 95), some (.int x1), some (.int x2), some (.int x3), some (.int x4), some (.int (x5 + (1 : Int32)))] [] (mk vi vl) post) : wp X (d + 1) k_M_does 0 0 159 [some (.ref 95), some (.int x1), some (.int x2), some (.int x3), some (.int x4), some (.int x5)] [] (mk vi vl) post :=
  wr_iinc (i := 5) (n := 1) (v := (1 : Int32)) (by decide +kernel) rfl (by decide) (by decide) <|
  wr_goto (off := -67) (t := 95) (by decide +kernel) (by decide) k1
theorem b_M_does_165 {X : aX} {d : Nat} {post : aO} {vi : Nat → Nat → Int32} {vl : Nat → Nat → Int64} {x1 x2 x3 x4 x5 : Int32} (k1 : x4 = 0 → wp X (d + 1) k_M_does 0 0 174 [some (.ref 95), some (.int x1), some (.int x2), some (.int x3), some (.int x4), some (.int x5)] [] (mk vi vl) post) (k2 : ¬ x4 = 0 → wp X (d + 1) k_M_does 0 0 170 [some (.ref 95), some (.int x1), some (.int x2), some (.int x3), some (.int x4), some (.int x5)] [] (mk vi vl) post) : wp X (d + 1) k_M_does 0 0 165 [some (.ref 95), some (.int x1), some (.int x2), some (.int x3), some (.int x4), some (.int x5)] [] (mk vi vl) post :=
  wr_iload (i := 4) (by decide +kernel) rfl <|
  wr_if_eq (off := 7) (t := 174) (by decide +kernel) (by decide) k1 k2
theorem b_M_does_170 {X : aX} {d : Nat} {post : aO} {vi : Nat → Nat → Int32} {vl : Nat → Nat → Int64} {x1 x2 x3 x4 x5 : Int32} (k1 : wp X (d + 1) k_M_does 0 0 175 [some (.ref 95), some (.int x1), some (.int x2), some (.int x3), some (.int x4), some (.int x5)] [.int x3] (mk vi vl) post) : wp X (d + 1) k_M_does 0 0 170 [some (.ref 95), some (.int x1), some (.int x2), some (.int x3), some (.int x4), some (.int x5)] [] (mk vi vl) post :=
  wr_iload_n (q := 3) (by decide +kernel) rfl rfl <|
  wr_goto (off := 4) (t := 175) (by decide +kernel) (by decide) k1
theorem b_M_does_174 {X : aX} {d : Nat} {post : aO} {vi : Nat → Nat → Int32} {vl : Nat → Nat → Int64} {x1 x2 x3 x4 x5 : Int32} (k1 : wp X (d + 1) k_M_does 0 0 175 [some (.ref 95), some (.int x1), some (.int x2), some (.int x3), some (.int x4), some (.int x5)] [.int (-1 : Int32)] (mk vi vl) post) : wp X (d + 1) k_M_does 0 0 174 [some (.ref 95), some (.int x1), some (.int x2), some (.int x3), some (.int x4), some (.int x5)] [] (mk vi vl) post :=
  wr_iconst (n := -1) (v := (-1 : Int32)) (by decide +kernel) (by decide) <|
  k1
theorem b_M_does_175 {X : aX} {d : Nat} {post : aO} {vi : Nat → Nat → Int32} {vl : Nat → Nat → Int64} {x1 x2 x3 x4 x5 y0 : Int32} (k1 : post (some (.int y0)) (mk vi vl)) : wp X (d + 1) k_M_does 0 0 175 [some (.ref 95), some (.int x1), some (.int x2), some (.int x3), some (.int x4), some (.int x5)] [.int y0] (mk vi vl) post :=
  wr_ret (r := some (.int y0)) (Or.inr (Or.inl ⟨_, rfl, (by decide +kernel), (Or.inl rfl)⟩)) k1
theorem b_M_canBe_0 {X : aX} {d : Nat} {post : aO} {vi : Nat → Nat → Int32} {vl : Nat → Nat → Int64} {x1 x2 : Int32} (k1 : x2 = (6 : Int32) → wp X (d + 1) k_M_canBe 0 0 36 [some (.ref 95), some (.int x1), some (.int x2)] [] (mk vi vl) post) (k2 : ¬ x2 = (6 : Int32) → wp X (d + 1) k_M_canBe 0 0 6 [some (.ref 95), some (.int x1), some (.int x2)] [] (mk vi vl) post) : wp X (d + 1) k_M_canBe 0 0 0 [some (.ref 95), some (.int x1), some (.int x2)] [] (mk vi vl) post :=
  wr_iload_n (q := 2) (by decide +kernel) rfl rfl <|
  wr_bipush (n := 6) (v := (6 : Int32)) (by decide +kernel) (by decide) <|
  wr_icmp_eq (off := 33) (t := 36) (by decide +kernel) (by decide) k1 k2
theorem b_M_canBe_6 {X : aX} {d : Nat} {post : aO} {vi : Nat → Nat → Int32} {vl : Nat → Nat → Int64} {x1 x2 : Int32} (k1 : ¬ x2 = (5 : Int32) → wp X (d + 1) k_M_canBe 0 0 15 [some (.ref 95), some (.int x1), some (.int x2)] [] (mk vi vl) post) (k2 : x2 = (5 : Int32) → wp X (d + 1) k_M_canBe 0 0 11 [some (.ref 95), some (.int x1), some (.int x2)] [] (mk vi vl) post) : wp X (d + 1) k_M_canBe 0 0 6 [some (.ref 95), some (.int x1), some (.int x2)] [] (mk vi vl) post :=
  wr_iload_n (q := 2) (by decide +kernel) rfl rfl <|
  wr_iconst (n := 5) (v := (5 : Int32)) (by decide +kernel) (by decide) <|
  wr_icmp_ne (off := 7) (t := 15) (by decide +kernel) (by decide) k1 k2
theorem b_M_canBe_11 {X : aX} {d : Nat} {post : aO} {vi : Nat → Nat → Int32} {vl : Nat → Nat → Int64} {x1 x2 : Int32} (k1 : wp X (d + 1) k_M_canBe 0 0 16 [some (.ref 95), some (.int x1), some (.int x2)] [.int (1 : Int32)] (mk vi vl) post) : wp X (d + 1) k_M_canBe 0 0 11 [some (.ref 95), some (.int x1), some (.int x2)] [] (mk vi vl) post :=
  wr_iconst (n := 1) (v := (1 : Int32)) (by decide +kernel) (by decide) <|
  wr_goto (off := 4) (t := 16) (by decide +kernel) (by decide) k1
theorem b_M_canBe_15 {X : aX} {d : Nat} {post : aO} {vi : Nat → Nat → Int32} {vl : Nat → Nat → Int64} {x1 x2 : Int32} (k1 : wp X (d + 1) k_M_canBe 0 0 16 [some (.ref 95), some (.int x1), some (.int x2)] [.int (0 : Int32)] (mk vi vl) post) : wp X (d + 1) k_M_canBe 0 0 15 [some (.ref 95), some (.int x1), some (.int x2)] [] (mk vi vl) post :=
  wr_iconst (n := 0) (v := (0 : Int32)) (by decide +kernel) (by decide) <|
  k1
theorem b_M_canBe_16 {X : aX} {d : Nat} {post : aO} {vi : Nat → Nat → Int32} {vl : Nat → Nat → Int64} {x1 x2 y0 : Int32} (q1 : vp_in ((2 : Int32) + x1) 5976) (k1 : ¬ (vi 96 ((2 : Int32) + x1).toNatClampNeg) = (1 : Int32) → wp X (d + 1) k_M_canBe 0 0 32 [some (.ref 95), some (.int x1), some (.int x2)] [.int y0] (mk vi vl) post) (k2 : (vi 96 ((2 : Int32) + x1).toNatClampNeg) = (1 : Int32) → wp X (d + 1) k_M_canBe 0 0 28 [some (.ref 95), some (.int x1), some (.int x2)] [.int y0] (mk vi vl) post) : wp X (d + 1) k_M_canBe 0 0 16 [some (.ref 95), some (.int x1), some (.int x2)] [.int y0] (mk vi vl) post :=
  wr_aload_n (q := 0) (by decide +kernel) rfl rfl <|
  wr_getR2 (b := 96) (ci := 4) (k0 := 0) (idx := 7) lq_95 sq_95 (by decide) (by decide) lf_M_7 rfl vq_95_0 lq_96 (by decide +kernel) <|
  wr_iconst (n := 2) (v := (2 : Int32)) (by decide +kernel) (by decide) <|
  wr_iload_n (q := 1) (by decide +kernel) rfl rfl <|
  wr_iadd (by decide +kernel) <|
  wr_iald lq_96 sq_96 q1 (by decide +kernel) <|
  wr_iconst (n := 1) (v := (1 : Int32)) (by decide +kernel) (by decide) <|
  wr_icmp_ne (off := 7) (t := 32) (by decide +kernel) (by decide) k1 k2
theorem b_M_canBe_28 {X : aX} {d : Nat} {post : aO} {vi : Nat → Nat → Int32} {vl : Nat → Nat → Int64} {x1 x2 y0 : Int32} (k1 : wp X (d + 1) k_M_canBe 0 0 33 [some (.ref 95), some (.int x1), some (.int x2)] [.int (1 : Int32), .int y0] (mk vi vl) post) : wp X (d + 1) k_M_canBe 0 0 28 [some (.ref 95), some (.int x1), some (.int x2)] [.int y0] (mk vi vl) post :=
  wr_iconst (n := 1) (v := (1 : Int32)) (by decide +kernel) (by decide) <|
  wr_goto (off := 4) (t := 33) (by decide +kernel) (by decide) k1
theorem b_M_canBe_32 {X : aX} {d : Nat} {post : aO} {vi : Nat → Nat → Int32} {vl : Nat → Nat → Int64} {x1 x2 y0 : Int32} (k1 : wp X (d + 1) k_M_canBe 0 0 33 [some (.ref 95), some (.int x1), some (.int x2)] [.int (0 : Int32), .int y0] (mk vi vl) post) : wp X (d + 1) k_M_canBe 0 0 32 [some (.ref 95), some (.int x1), some (.int x2)] [.int y0] (mk vi vl) post :=
  wr_iconst (n := 0) (v := (0 : Int32)) (by decide +kernel) (by decide) <|
  k1
theorem b_M_canBe_33 {X : aX} {d : Nat} {post : aO} {vi : Nat → Nat → Int32} {vl : Nat → Nat → Int64} {x1 x2 y0 y1 : Int32} (k1 : ¬ y0 = y1 → wp X (d + 1) k_M_canBe 0 0 40 [some (.ref 95), some (.int x1), some (.int x2)] [] (mk vi vl) post) (k2 : y0 = y1 → wp X (d + 1) k_M_canBe 0 0 36 [some (.ref 95), some (.int x1), some (.int x2)] [] (mk vi vl) post) : wp X (d + 1) k_M_canBe 0 0 33 [some (.ref 95), some (.int x1), some (.int x2)] [.int y1, .int y0] (mk vi vl) post :=
  wr_icmp_ne (off := 7) (t := 40) (by decide +kernel) (by decide) k1 k2
theorem b_M_canBe_36 {X : aX} {d : Nat} {post : aO} {vi : Nat → Nat → Int32} {vl : Nat → Nat → Int64} {x1 x2 : Int32} (k1 : wp X (d + 1) k_M_canBe 0 0 41 [some (.ref 95), some (.int x1), some (.int x2)] [.int (1 : Int32)] (mk vi vl) post) : wp X (d + 1) k_M_canBe 0 0 36 [some (.ref 95), some (.int x1), some (.int x2)] [] (mk vi vl) post :=
  wr_iconst (n := 1) (v := (1 : Int32)) (by decide +kernel) (by decide) <|
  wr_goto (off := 4) (t := 41) (by decide +kernel) (by decide) k1
theorem b_M_canBe_40 {X : aX} {d : Nat} {post : aO} {vi : Nat → Nat → Int32} {vl : Nat → Nat → Int64} {x1 x2 : Int32} (k1 : wp X (d + 1) k_M_canBe 0 0 41 [some (.ref 95), some (.int x1), some (.int x2)] [.int (0 : Int32)] (mk vi vl) post) : wp X (d + 1) k_M_canBe 0 0 40 [some (.ref 95), some (.int x1), some (.int x2)] [] (mk vi vl) post :=
  wr_iconst (n := 0) (v := (0 : Int32)) (by decide +kernel) (by decide) <|
  k1
theorem b_M_canBe_41 {X : aX} {d : Nat} {post : aO} {vi : Nat → Nat → Int32} {vl : Nat → Nat → Int64} {x1 x2 y0 : Int32} (q1 : y0 = 0 ∨ y0 = 1) (k1 : post (some (.int y0)) (mk vi vl)) : wp X (d + 1) k_M_canBe 0 0 41 [some (.ref 95), some (.int x1), some (.int x2)] [.int y0] (mk vi vl) post :=
  wr_ret (r := some (.int y0)) (Or.inr (Or.inl ⟨_, rfl, (by decide +kernel), (Or.inr ⟨rfl, q1⟩)⟩)) k1
theorem b_M_tellsPlan_0 {X : aX} {d : Nat} {post : aO} {vi : Nat → Nat → Int32} {vl : Nat → Nat → Int64} {x1 x2 : Int32} (k1 : CallOk X d 0 0 k_M_anew [.ref 95, .int x2, .int (vi 96 0)] (mk vi vl) (fun r N' => wp X (d + 1) k_M_tellsPlan 0 0 11 [some (.ref 95), some (.int x1), some (.int x2), none, none] (pR r []) N' post)) : wp X (d + 1) k_M_tellsPlan 0 0 0 [some (.ref 95), some (.int x1), some (.int x2), none, none] [] (mk vi vl) post :=
  wr_aload_n (q := 0) (by decide +kernel) rfl rfl <|
  wr_iload_n (q := 2) (by decide +kernel) rfl rfl <|
  wr_aload_n (q := 0) (by decide +kernel) rfl rfl <|
  wr_getR2 (b := 96) (ci := 4) (k0 := 0) (idx := 7) lq_95 sq_95 (by decide) (by decide) lf_M_7 rfl vq_95_0 lq_96 (by decide +kernel) <|
  wr_iconst (n := 0) (v := (0 : Int32)) (by decide +kernel) (by decide) <|
  wr_iald lq_96 sq_96 (by unfold vp_in; decide) (by decide +kernel) <|
  wr_invV (a := 95) (ci := 4) (mid2 := 120) (idx := 73) (b1 := 0) (b2 := 0) (c1 := 0) (c2 := 0) (as := [.int x2, .int (vi 96 0)]) (st := []) pl_120 rfl (Nat.le_of_ble_eq_true rfl) rfl rfl lq_95 sq_95 (by decide) rfl lm_M_73 im_120 is_120 (by decide +kernel) k1
theorem b_M_tellsPlan_11 {X : aX} {d : Nat} {post : aO} {vi : Nat → Nat → Int32} {vl : Nat → Nat → Int64} {x1 x2 : Int32} {o3 o4 : Option Value} (k1 : wp X (d + 1) k_M_tellsPlan 0 0 23 [some (.ref 95), some (.int x1), some (.int x2), some (.int x1), some (.int ((vi 96 0) - (1 : Int32)))] [] (mk vi vl) post) : wp X (d + 1) k_M_tellsPlan 0 0 11 [some (.ref 95), some (.int x1), some (.int x2), o3, o4] [] (mk vi vl) post :=
  wr_iload_n (q := 1) (by decide +kernel) rfl rfl <|
  wr_istore_n (q := 3) (by decide +kernel) rfl (by decide) <|
  wr_aload_n (q := 0) (by decide +kernel) rfl rfl <|
  wr_getR2 (b := 96) (ci := 4) (k0 := 0) (idx := 7) lq_95 sq_95 (by decide) (by decide) lf_M_7 rfl vq_95_0 lq_96 (by decide +kernel) <|
  wr_iconst (n := 0) (v := (0 : Int32)) (by decide +kernel) (by decide) <|
  wr_iald lq_96 sq_96 (by unfold vp_in; decide) (by decide +kernel) <|
  wr_iconst (n := 1) (v := (1 : Int32)) (by decide +kernel) (by decide) <|
  wr_isub (by decide +kernel) <|
  wr_istore (i := 4) (by decide +kernel) (by decide) <|
  k1
theorem b_M_tellsPlan_23 {X : aX} {d : Nat} {post : aO} {vi : Nat → Nat → Int32} {vl : Nat → Nat → Int64} {x1 x2 x3 x4 : Int32} (k1 : x4 < 0 → wp X (d + 1) k_M_tellsPlan 0 0 55 [some (.ref 95), some (.int x1), some (.int x2), some (.int x3), some (.int x4)] [] (mk vi vl) post) (k2 : ¬ x4 < 0 → wp X (d + 1) k_M_tellsPlan 0 0 28 [some (.ref 95), some (.int x1), some (.int x2), some (.int x3), some (.int x4)] [] (mk vi vl) post) : wp X (d + 1) k_M_tellsPlan 0 0 23 [some (.ref 95), some (.int x1), some (.int x2), some (.int x3), some (.int x4)] [] (mk vi vl) post :=
  wr_iload (i := 4) (by decide +kernel) rfl <|
  wr_if_lt (off := 30) (t := 55) (by decide +kernel) (by decide) k1 k2
theorem b_M_tellsPlan_28 {X : aX} {d : Nat} {post : aO} {vi : Nat → Nat → Int32} {vl : Nat → Nat → Int64} {x1 x2 x3 x4 : Int32} (q1 : vp_in (((40 : Int32) * x2) + x4) 240) (k1 : ∀ w, w = up2 vi 98 (((40 : Int32) * x2) + x4).toNatClampNeg (x3 - x3 / (7 : Int32) * (7 : Int32)) → wp X (d + 1) k_M_tellsPlan 0 0 44 [some (.ref 95), some (.int x1), some (.int x2), some (.int x3), some (.int x4)] [] (mk w vl) post) : wp X (d + 1) k_M_tellsPlan 0 0 28 [some (.ref 95), some (.int x1), some (.int x2), some (.int x3), some (.int x4)] [] (mk vi vl) post :=
  wr_aload_n (q := 0) (by decide +kernel) rfl rfl <|
  wr_getR2 (b := 98) (ci := 4) (k0 := 3) (idx := 16) lq_95 sq_95 (by decide) (by decide) lf_M_16 rfl vq_95_3 lq_98 (by decide +kernel) <|
  wr_bipush (n := 40) (v := (40 : Int32)) (by decide +kernel) (by decide) <|
  wr_iload_n (q := 2) (by decide +kernel) rfl rfl <|
  wr_imul (by decide +kernel) <|
  wr_iload (i := 4) (by decide +kernel) rfl <|
  wr_iadd (by decide +kernel) <|
  wr_iload_n (q := 3) (by decide +kernel) rfl rfl <|
  wr_bipush (n := 7) (v := (7 : Int32)) (by decide +kernel) (by decide) <|
  wr_irem (by decide +kernel) (by decide) <|
  wr_iast lq_98 sq_98 q1 (by decide +kernel) <|
  k1 _ rfl
theorem b_M_tellsPlan_44 {X : aX} {d : Nat} {post : aO} {vi : Nat → Nat → Int32} {vl : Nat → Nat → Int64} {x1 x2 x3 x4 : Int32} (k1 : wp X (d + 1) k_M_tellsPlan 0 0 23 [some (.ref 95), some (.int x1), some (.int x2), some (.int (x3 / (7 : Int32))), some (.int (x4 + (-1 : Int32)))] [] (mk vi vl) post) : wp X (d + 1) k_M_tellsPlan 0 0 44 [some (.ref 95), some (.int x1), some (.int x2), some (.int x3), some (.int x4)] [] (mk vi vl) post :=
  wr_iload_n (q := 3) (by decide +kernel) rfl rfl <|
  wr_bipush (n := 7) (v := (7 : Int32)) (by decide +kernel) (by decide) <|
  wr_idiv (by decide +kernel) (by decide) <|
  wr_istore_n (q := 3) (by decide +kernel) rfl (by decide) <|
  wr_iinc (i := 4) (n := -1) (v := (-1 : Int32)) (by decide +kernel) rfl (by decide) (by decide) <|
  wr_goto (off := -29) (t := 23) (by decide +kernel) (by decide) k1
theorem b_M_tellsPlan_55 {X : aX} {d : Nat} {post : aO} {vi : Nat → Nat → Int32} {vl : Nat → Nat → Int64} {x1 x2 x3 x4 : Int32} (k1 : post none (mk vi vl)) : wp X (d + 1) k_M_tellsPlan 0 0 55 [some (.ref 95), some (.int x1), some (.int x2), some (.int x3), some (.int x4)] [] (mk vi vl) post :=
  wr_ret (r := none) (Or.inl ⟨rfl, (by decide +kernel), rfl⟩) k1
theorem b_M_ways_0 {X : aX} {d : Nat} {post : aO} {vi : Nat → Nat → Int32} {vl : Nat → Nat → Int64} {x1 x2 x3 : Int32} (k1 : CallOk X d 0 0 k_M_isTold [.int x1] (mk vi vl) (fun r N' => wp X (d + 1) k_M_ways 0 0 4 [some (.ref 95), some (.int x1), some (.int x2), some (.int x3), none, none, none, none, none] (pR r []) N' post)) : wp X (d + 1) k_M_ways 0 0 0 [some (.ref 95), some (.int x1), some (.int x2), some (.int x3), none, none, none, none, none] [] (mk vi vl) post :=
  wr_iload_n (q := 1) (by decide +kernel) rfl rfl <|
  wr_invS (mid2 := 157) (idx := 168) (b1 := 0) (b2 := 0) (c1 := 0) (c2 := 0) (as := [.int x1]) (st := []) pl_157 rfl (Nat.le_of_ble_eq_true rfl) rfl rfl lm_M_168 it_157 (by decide +kernel) k1
theorem b_M_ways_4 {X : aX} {d : Nat} {post : aO} {vi : Nat → Nat → Int32} {vl : Nat → Nat → Int64} {x1 x2 x3 y0 : Int32} {o4 o5 o6 o7 o8 : Option Value} (k1 : y0 = 0 → wp X (d + 1) k_M_ways 0 0 27 [some (.ref 95), some (.int x1), some (.int x2), some (.int x3), o4, o5, o6, o7, o8] [] (mk vi vl) post) (k2 : ¬ y0 = 0 → wp X (d + 1) k_M_ways 0 0 7 [some (.ref 95), some (.int x1), some (.int x2), some (.int x3), o4, o5, o6, o7, o8] [] (mk vi vl) post) : wp X (d + 1) k_M_ways 0 0 4 [some (.ref 95), some (.int x1), some (.int x2), some (.int x3), o4, o5, o6, o7, o8] [.int y0] (mk vi vl) post :=
  wr_if_eq (off := 23) (t := 27) (by decide +kernel) (by decide) k1 k2
theorem b_M_ways_7 {X : aX} {d : Nat} {post : aO} {vi : Nat → Nat → Int32} {vl : Nat → Nat → Int64} {x1 x2 x3 : Int32} {o4 o5 o6 o7 o8 : Option Value} (k1 : CallOk X d 0 0 k_M_isYear [.ref 95, .int x2] (mk vi vl) (fun r N' => wp X (d + 1) k_M_ways 0 0 12 [some (.ref 95), some (.int x1), some (.int x2), some (.int x3), o4, o5, o6, o7, o8] (pR r []) N' post)) : wp X (d + 1) k_M_ways 0 0 7 [some (.ref 95), some (.int x1), some (.int x2), some (.int x3), o4, o5, o6, o7, o8] [] (mk vi vl) post :=
  wr_aload_n (q := 0) (by decide +kernel) rfl rfl <|
  wr_iload_n (q := 2) (by decide +kernel) rfl rfl <|
  wr_invV (a := 95) (ci := 4) (mid2 := 143) (idx := 151) (b1 := 0) (b2 := 0) (c1 := 0) (c2 := 0) (as := [.int x2]) (st := []) pl_143 rfl (Nat.le_of_ble_eq_true rfl) rfl rfl lq_95 sq_95 (by decide) rfl lm_M_151 im_143 is_143 (by decide +kernel) k1
theorem b_M_ways_12 {X : aX} {d : Nat} {post : aO} {vi : Nat → Nat → Int32} {vl : Nat → Nat → Int64} {x1 x2 x3 y0 : Int32} {o4 o5 o6 o7 o8 : Option Value} (k1 : y0 = 0 → wp X (d + 1) k_M_ways 0 0 27 [some (.ref 95), some (.int x1), some (.int x2), some (.int x3), o4, o5, o6, o7, o8] [] (mk vi vl) post) (k2 : ¬ y0 = 0 → wp X (d + 1) k_M_ways 0 0 15 [some (.ref 95), some (.int x1), some (.int x2), some (.int x3), o4, o5, o6, o7, o8] [] (mk vi vl) post) : wp X (d + 1) k_M_ways 0 0 12 [some (.ref 95), some (.int x1), some (.int x2), some (.int x3), o4, o5, o6, o7, o8] [.int y0] (mk vi vl) post :=
  wr_if_eq (off := 15) (t := 27) (by decide +kernel) (by decide) k1 k2
theorem b_M_ways_15 {X : aX} {d : Nat} {post : aO} {vi : Nat → Nat → Int32} {vl : Nat → Nat → Int64} {x1 x2 x3 : Int32} {o4 o5 o6 o7 o8 : Option Value} (k1 : CallOk X d 0 0 k_M_in [.long x3.toInt64, .long (0 : Int64), .long (5 : Int64)] (mk vi vl) (fun r N' => wp X (d + 1) k_M_ways 0 0 24 [some (.ref 95), some (.int x1), some (.int x2), some (.int x3), o4, o5, o6, o7, o8] (pR r []) N' post)) : wp X (d + 1) k_M_ways 0 0 15 [some (.ref 95), some (.int x1), some (.int x2), some (.int x3), o4, o5, o6, o7, o8] [] (mk vi vl) post :=
  wr_iload_n (q := 3) (by decide +kernel) rfl rfl <|
  wr_i2l (by decide +kernel) <|
  wr_lconst (n := 0) (v := (0 : Int64)) (by decide +kernel) (by decide) <|
  wr_ldc2 (i := 57) (v := (5 : Int64)) (by decide +kernel) lj_M_57 <|
  wr_invS (mid2 := 118) (idx := 59) (b1 := 0) (b2 := 0) (c1 := 0) (c2 := 0) (as := [.long x3.toInt64, .long (0 : Int64), .long (5 : Int64)]) (st := []) pl_118 rfl (Nat.le_of_ble_eq_true rfl) rfl rfl lm_M_59 it_118 (by decide +kernel) k1
theorem b_M_ways_24 {X : aX} {d : Nat} {post : aO} {vi : Nat → Nat → Int32} {vl : Nat → Nat → Int64} {x1 x2 x3 y0 : Int32} {o4 o5 o6 o7 o8 : Option Value} (k1 : ¬ y0 = 0 → wp X (d + 1) k_M_ways 0 0 29 [some (.ref 95), some (.int x1), some (.int x2), some (.int x3), o4, o5, o6, o7, o8] [] (mk vi vl) post) (k2 : y0 = 0 → wp X (d + 1) k_M_ways 0 0 27 [some (.ref 95), some (.int x1), some (.int x2), some (.int x3), o4, o5, o6, o7, o8] [] (mk vi vl) post) : wp X (d + 1) k_M_ways 0 0 24 [some (.ref 95), some (.int x1), some (.int x2), some (.int x3), o4, o5, o6, o7, o8] [.int y0] (mk vi vl) post :=
  wr_if_ne (off := 5) (t := 29) (by decide +kernel) (by decide) k1 k2
theorem b_M_ways_27 {X : aX} {d : Nat} {post : aO} {vi : Nat → Nat → Int32} {vl : Nat → Nat → Int64} {x1 x2 x3 : Int32} {o4 o5 o6 o7 o8 : Option Value} (k1 : post (some (.int (-1 : Int32))) (mk vi vl)) : wp X (d + 1) k_M_ways 0 0 27 [some (.ref 95), some (.int x1), some (.int x2), some (.int x3), o4, o5, o6, o7, o8] [] (mk vi vl) post :=
  wr_iconst (n := -1) (v := (-1 : Int32)) (by decide +kernel) (by decide) <|
  wr_ret (r := some (.int (-1 : Int32))) (Or.inr (Or.inl ⟨_, rfl, (by decide +kernel), (Or.inl rfl)⟩)) k1
theorem b_M_ways_29 {X : aX} {d : Nat} {post : aO} {vi : Nat → Nat → Int32} {vl : Nat → Nat → Int64} {x1 x2 x3 : Int32} {o4 o5 o6 o7 o8 : Option Value} (k1 : CallOk X d 0 0 k_M_plans [.ref 95] (mk vi vl) (fun r N' => wp X (d + 1) k_M_ways 0 0 33 [some (.ref 95), some (.int x1), some (.int x2), some (.int x3), o4, o5, o6, o7, o8] (pR r []) N' post)) : wp X (d + 1) k_M_ways 0 0 29 [some (.ref 95), some (.int x1), some (.int x2), some (.int x3), o4, o5, o6, o7, o8] [] (mk vi vl) post :=
  wr_aload_n (q := 0) (by decide +kernel) rfl rfl <|
  wr_invV (a := 95) (ci := 4) (mid2 := 176) (idx := 194) (b1 := 0) (b2 := 0) (c1 := 0) (c2 := 0) (as := []) (st := []) pl_176 rfl (Nat.le_of_ble_eq_true rfl) rfl rfl lq_95 sq_95 (by decide) rfl lm_M_194 im_176 is_176 (by decide +kernel) k1
theorem b_M_ways_33 {X : aX} {d : Nat} {post : aO} {vi : Nat → Nat → Int32} {vl : Nat → Nat → Int64} {x1 x2 x3 y0 : Int32} {o4 o5 o6 o7 o8 : Option Value} (k1 : CallOk X d 0 0 k_M_lays [.ref 95] (mk vi vl) (fun r N' => wp X (d + 1) k_M_ways 0 0 42 [some (.ref 95), some (.int x1), some (.int x2), some (.int x3), some (.int y0), some (.int (0 : Int32)), o6, o7, o8] (pR r []) N' post)) : wp X (d + 1) k_M_ways 0 0 33 [some (.ref 95), some (.int x1), some (.int x2), some (.int x3), o4, o5, o6, o7, o8] [.int y0] (mk vi vl) post :=
  wr_istore (i := 4) (by decide +kernel) (by decide) <|
  wr_iconst (n := 0) (v := (0 : Int32)) (by decide +kernel) (by decide) <|
  wr_istore (i := 5) (by decide +kernel) (by decide) <|
  wr_aload_n (q := 0) (by decide +kernel) rfl rfl <|
  wr_invV (a := 95) (ci := 4) (mid2 := 171) (idx := 184) (b1 := 0) (b2 := 0) (c1 := 0) (c2 := 0) (as := []) (st := []) pl_171 rfl (Nat.le_of_ble_eq_true rfl) rfl rfl lq_95 sq_95 (by decide) rfl lm_M_184 im_171 is_171 (by decide +kernel) k1
theorem b_M_ways_42 {X : aX} {d : Nat} {post : aO} {vi : Nat → Nat → Int32} {vl : Nat → Nat → Int64} {x1 x2 x3 x4 x5 : Int32} {o6 o7 o8 : Option Value} (k1 : wp X (d + 1) k_M_ways 0 0 45 [some (.ref 95), some (.int x1), some (.int x2), some (.int x3), some (.int x4), some (.int x5), some (.int (0 : Int32)), o7, o8] [] (mk vi vl) post) : wp X (d + 1) k_M_ways 0 0 42 [some (.ref 95), some (.int x1), some (.int x2), some (.int x3), some (.int x4), some (.int x5), o6, o7, o8] [] (mk vi vl) post :=
  wr_iconst (n := 0) (v := (0 : Int32)) (by decide +kernel) (by decide) <|
  wr_istore (i := 6) (by decide +kernel) (by decide) <|
  k1
theorem b_M_ways_45 {X : aX} {d : Nat} {post : aO} {vi : Nat → Nat → Int32} {vl : Nat → Nat → Int64} {x1 x2 x3 x4 x5 x6 : Int32} {o7 o8 : Option Value} (k1 : x4 ≤ x6 → wp X (d + 1) k_M_ways 0 0 120 [some (.ref 95), some (.int x1), some (.int x2), some (.int x3), some (.int x4), some (.int x5), some (.int x6), o7, o8] [] (mk vi vl) post) (k2 : ¬ x4 ≤ x6 → wp X (d + 1) k_M_ways 0 0 52 [some (.ref 95), some (.int x1), some (.int x2), some (.int x3), some (.int x4), some (.int x5), some (.int x6), o7, o8] [] (mk vi vl) post) : wp X (d + 1) k_M_ways 0 0 45 [some (.ref 95), some (.int x1), some (.int x2), some (.int x3), some (.int x4), some (.int x5), some (.int x6), o7, o8] [] (mk vi vl) post :=
  wr_iload (i := 6) (by decide +kernel) rfl <|
  wr_iload (i := 4) (by decide +kernel) rfl <|
  wr_icmp_ge (off := 71) (t := 120) (by decide +kernel) (by decide) k1 k2
theorem b_M_ways_52 {X : aX} {d : Nat} {post : aO} {vi : Nat → Nat → Int32} {vl : Nat → Nat → Int64} {x1 x2 x3 x4 x5 x6 : Int32} {o7 o8 : Option Value} (k1 : CallOk X d 0 0 k_M_does [.ref 95, .int x6] (mk vi vl) (fun r N' => wp X (d + 1) k_M_ways 0 0 58 [some (.ref 95), some (.int x1), some (.int x2), some (.int x3), some (.int x4), some (.int x5), some (.int x6), o7, o8] (pR r []) N' post)) : wp X (d + 1) k_M_ways 0 0 52 [some (.ref 95), some (.int x1), some (.int x2), some (.int x3), some (.int x4), some (.int x5), some (.int x6), o7, o8] [] (mk vi vl) post :=
  wr_aload_n (q := 0) (by decide +kernel) rfl rfl <|
  wr_iload (i := 6) (by decide +kernel) rfl <|
  wr_invV (a := 95) (ci := 4) (mid2 := 177) (idx := 197) (b1 := 0) (b2 := 0) (c1 := 0) (c2 := 0) (as := [.int x6]) (st := []) pl_177 rfl (Nat.le_of_ble_eq_true rfl) rfl rfl lq_95 sq_95 (by decide) rfl lm_M_197 im_177 is_177 (by decide +kernel) k1
theorem b_M_ways_58 {X : aX} {d : Nat} {post : aO} {vi : Nat → Nat → Int32} {vl : Nat → Nat → Int64} {x1 x2 x3 x4 x5 x6 y0 : Int32} {o7 o8 : Option Value} (k1 : y0 < 0 → wp X (d + 1) k_M_ways 0 0 82 [some (.ref 95), some (.int x1), some (.int x2), some (.int x3), some (.int x4), some (.int x5), some (.int x6), some (.int y0), o8] [] (mk vi vl) post) (k2 : ¬ y0 < 0 → wp X (d + 1) k_M_ways 0 0 65 [some (.ref 95), some (.int x1), some (.int x2), some (.int x3), some (.int x4), some (.int x5), some (.int x6), some (.int y0), o8] [] (mk vi vl) post) : wp X (d + 1) k_M_ways 0 0 58 [some (.ref 95), some (.int x1), some (.int x2), some (.int x3), some (.int x4), some (.int x5), some (.int x6), o7, o8] [.int y0] (mk vi vl) post :=
  wr_istore (i := 7) (by decide +kernel) (by decide) <|
  wr_iload (i := 7) (by decide +kernel) rfl <|
  wr_if_lt (off := 20) (t := 82) (by decide +kernel) (by decide) k1 k2
theorem b_M_ways_65 {X : aX} {d : Nat} {post : aO} {vi : Nat → Nat → Int32} {vl : Nat → Nat → Int64} {x1 x2 x3 x4 x5 x6 x7 : Int32} {o8 : Option Value} (k1 : x3 < x7 → wp X (d + 1) k_M_ways 0 0 82 [some (.ref 95), some (.int x1), some (.int x2), some (.int x3), some (.int x4), some (.int x5), some (.int x6), some (.int x7), o8] [] (mk vi vl) post) (k2 : ¬ x3 < x7 → wp X (d + 1) k_M_ways 0 0 71 [some (.ref 95), some (.int x1), some (.int x2), some (.int x3), some (.int x4), some (.int x5), some (.int x6), some (.int x7), o8] [] (mk vi vl) post) : wp X (d + 1) k_M_ways 0 0 65 [some (.ref 95), some (.int x1), some (.int x2), some (.int x3), some (.int x4), some (.int x5), some (.int x6), some (.int x7), o8] [] (mk vi vl) post :=
  wr_iload (i := 7) (by decide +kernel) rfl <|
  wr_iload_n (q := 3) (by decide +kernel) rfl rfl <|
  wr_icmp_gt (off := 14) (t := 82) (by decide +kernel) (by decide) k1 k2
theorem b_M_ways_71 {X : aX} {d : Nat} {post : aO} {vi : Nat → Nat → Int32} {vl : Nat → Nat → Int64} {x1 x2 x3 x4 x5 x6 x7 : Int32} {o8 : Option Value} (k1 : CallOk X d 0 0 k_M_brokenNow [.ref 95] (mk vi vl) (fun r N' => wp X (d + 1) k_M_ways 0 0 75 [some (.ref 95), some (.int x1), some (.int x2), some (.int x3), some (.int x4), some (.int x5), some (.int x6), some (.int x7), o8] (pR r []) N' post)) : wp X (d + 1) k_M_ways 0 0 71 [some (.ref 95), some (.int x1), some (.int x2), some (.int x3), some (.int x4), some (.int x5), some (.int x6), some (.int x7), o8] [] (mk vi vl) post :=
  wr_aload_n (q := 0) (by decide +kernel) rfl rfl <|
  wr_invV (a := 95) (ci := 4) (mid2 := 161) (idx := 177) (b1 := 0) (b2 := 0) (c1 := 0) (c2 := 0) (as := []) (st := []) pl_161 rfl (Nat.le_of_ble_eq_true rfl) rfl rfl lq_95 sq_95 (by decide) rfl lm_M_177 im_161 is_161 (by decide +kernel) k1
theorem b_M_ways_75 {X : aX} {d : Nat} {post : aO} {vi : Nat → Nat → Int32} {vl : Nat → Nat → Int64} {x1 x2 x3 x4 x5 x6 x7 y0 : Int32} {o8 : Option Value} (k1 : ¬ y0 = 0 → wp X (d + 1) k_M_ways 0 0 82 [some (.ref 95), some (.int x1), some (.int x2), some (.int x3), some (.int x4), some (.int x5), some (.int x6), some (.int x7), o8] [] (mk vi vl) post) (k2 : y0 = 0 → wp X (d + 1) k_M_ways 0 0 78 [some (.ref 95), some (.int x1), some (.int x2), some (.int x3), some (.int x4), some (.int x5), some (.int x6), some (.int x7), o8] [] (mk vi vl) post) : wp X (d + 1) k_M_ways 0 0 75 [some (.ref 95), some (.int x1), some (.int x2), some (.int x3), some (.int x4), some (.int x5), some (.int x6), some (.int x7), o8] [.int y0] (mk vi vl) post :=
  wr_if_ne (off := 7) (t := 82) (by decide +kernel) (by decide) k1 k2
theorem b_M_ways_78 {X : aX} {d : Nat} {post : aO} {vi : Nat → Nat → Int32} {vl : Nat → Nat → Int64} {x1 x2 x3 x4 x5 x6 x7 : Int32} {o8 : Option Value} (k1 : wp X (d + 1) k_M_ways 0 0 83 [some (.ref 95), some (.int x1), some (.int x2), some (.int x3), some (.int x4), some (.int x5), some (.int x6), some (.int x7), o8] [.int (1 : Int32)] (mk vi vl) post) : wp X (d + 1) k_M_ways 0 0 78 [some (.ref 95), some (.int x1), some (.int x2), some (.int x3), some (.int x4), some (.int x5), some (.int x6), some (.int x7), o8] [] (mk vi vl) post :=
  wr_iconst (n := 1) (v := (1 : Int32)) (by decide +kernel) (by decide) <|
  wr_goto (off := 4) (t := 83) (by decide +kernel) (by decide) k1
theorem b_M_ways_82 {X : aX} {d : Nat} {post : aO} {vi : Nat → Nat → Int32} {vl : Nat → Nat → Int64} {x1 x2 x3 x4 x5 x6 x7 : Int32} {o8 : Option Value} (k1 : wp X (d + 1) k_M_ways 0 0 83 [some (.ref 95), some (.int x1), some (.int x2), some (.int x3), some (.int x4), some (.int x5), some (.int x6), some (.int x7), o8] [.int (0 : Int32)] (mk vi vl) post) : wp X (d + 1) k_M_ways 0 0 82 [some (.ref 95), some (.int x1), some (.int x2), some (.int x3), some (.int x4), some (.int x5), some (.int x6), some (.int x7), o8] [] (mk vi vl) post :=
  wr_iconst (n := 0) (v := (0 : Int32)) (by decide +kernel) (by decide) <|
  k1
theorem b_M_ways_83 {X : aX} {d : Nat} {post : aO} {vi : Nat → Nat → Int32} {vl : Nat → Nat → Int64} {x1 x2 x3 x4 x5 x6 x7 y0 : Int32} {o8 : Option Value} (k1 : y0 = 0 → wp X (d + 1) k_M_ways 0 0 106 [some (.ref 95), some (.int x1), some (.int x2), some (.int x3), some (.int x4), some (.int x5), some (.int x6), some (.int x7), some (.int y0)] [.int x5] (mk vi vl) post) (k2 : ¬ y0 = 0 → wp X (d + 1) k_M_ways 0 0 92 [some (.ref 95), some (.int x1), some (.int x2), some (.int x3), some (.int x4), some (.int x5), some (.int x6), some (.int x7), some (.int y0)] [.int x5] (mk vi vl) post) : wp X (d + 1) k_M_ways 0 0 83 [some (.ref 95), some (.int x1), some (.int x2), some (.int x3), some (.int x4), some (.int x5), some (.int x6), some (.int x7), o8] [.int y0] (mk vi vl) post :=
  wr_istore (i := 8) (by decide +kernel) (by decide) <|
  wr_iload (i := 5) (by decide +kernel) rfl <|
  wr_iload (i := 8) (by decide +kernel) rfl <|
  wr_if_eq (off := 17) (t := 106) (by decide +kernel) (by decide) k1 k2
theorem b_M_ways_92 {X : aX} {d : Nat} {post : aO} {vi : Nat → Nat → Int32} {vl : Nat → Nat → Int64} {x1 x2 x3 x4 x5 x6 x7 x8 y0 : Int32} (q1 : vp_in x2 5) (k1 : ¬ (vi 104 x2.toNatClampNeg) = x1 → wp X (d + 1) k_M_ways 0 0 106 [some (.ref 95), some (.int x1), some (.int x2), some (.int x3), some (.int x4), some (.int x5), some (.int x6), some (.int x7), some (.int x8)] [.int y0] (mk vi vl) post) (k2 : (vi 104 x2.toNatClampNeg) = x1 → wp X (d + 1) k_M_ways 0 0 102 [some (.ref 95), some (.int x1), some (.int x2), some (.int x3), some (.int x4), some (.int x5), some (.int x6), some (.int x7), some (.int x8)] [.int y0] (mk vi vl) post) : wp X (d + 1) k_M_ways 0 0 92 [some (.ref 95), some (.int x1), some (.int x2), some (.int x3), some (.int x4), some (.int x5), some (.int x6), some (.int x7), some (.int x8)] [.int y0] (mk vi vl) post :=
  wr_aload_n (q := 0) (by decide +kernel) rfl rfl <|
  wr_getR2 (b := 104) (ci := 4) (k0 := 14) (idx := 38) lq_95 sq_95 (by decide) (by decide) lf_M_38 rfl vq_95_14 lq_104 (by decide +kernel) <|
  wr_iload_n (q := 2) (by decide +kernel) rfl rfl <|
  wr_iald lq_104 sq_104 q1 (by decide +kernel) <|
  wr_iload_n (q := 1) (by decide +kernel) rfl rfl <|
  wr_icmp_ne (off := 7) (t := 106) (by decide +kernel) (by decide) k1 k2
theorem b_M_ways_102 {X : aX} {d : Nat} {post : aO} {vi : Nat → Nat → Int32} {vl : Nat → Nat → Int64} {x1 x2 x3 x4 x5 x6 x7 x8 y0 : Int32} (k1 : wp X (d + 1) k_M_ways 0 0 107 [some (.ref 95), some (.int x1), some (.int x2), some (.int x3), some (.int x4), some (.int x5), some (.int x6), some (.int x7), some (.int x8)] [.int (1 : Int32), .int y0] (mk vi vl) post) : wp X (d + 1) k_M_ways 0 0 102 [some (.ref 95), some (.int x1), some (.int x2), some (.int x3), some (.int x4), some (.int x5), some (.int x6), some (.int x7), some (.int x8)] [.int y0] (mk vi vl) post :=
  wr_iconst (n := 1) (v := (1 : Int32)) (by decide +kernel) (by decide) <|
  wr_goto (off := 4) (t := 107) (by decide +kernel) (by decide) k1
theorem b_M_ways_106 {X : aX} {d : Nat} {post : aO} {vi : Nat → Nat → Int32} {vl : Nat → Nat → Int64} {x1 x2 x3 x4 x5 x6 x7 x8 y0 : Int32} (k1 : wp X (d + 1) k_M_ways 0 0 107 [some (.ref 95), some (.int x1), some (.int x2), some (.int x3), some (.int x4), some (.int x5), some (.int x6), some (.int x7), some (.int x8)] [.int (0 : Int32), .int y0] (mk vi vl) post) : wp X (d + 1) k_M_ways 0 0 106 [some (.ref 95), some (.int x1), some (.int x2), some (.int x3), some (.int x4), some (.int x5), some (.int x6), some (.int x7), some (.int x8)] [.int y0] (mk vi vl) post :=
  wr_iconst (n := 0) (v := (0 : Int32)) (by decide +kernel) (by decide) <|
  k1
theorem b_M_ways_107 {X : aX} {d : Nat} {post : aO} {vi : Nat → Nat → Int32} {vl : Nat → Nat → Int64} {x1 x2 x3 x4 x5 x6 x7 x8 y0 y1 : Int32} (k1 : CallOk X d 0 0 k_M_putsBack [.ref 95] (mk vi vl) (fun r N' => wp X (d + 1) k_M_ways 0 0 114 [some (.ref 95), some (.int x1), some (.int x2), some (.int x3), some (.int x4), some (.int (y0 + y1)), some (.int x6), some (.int x7), some (.int x8)] (pR r []) N' post)) : wp X (d + 1) k_M_ways 0 0 107 [some (.ref 95), some (.int x1), some (.int x2), some (.int x3), some (.int x4), some (.int x5), some (.int x6), some (.int x7), some (.int x8)] [.int y1, .int y0] (mk vi vl) post :=
  wr_iadd (by decide +kernel) <|
  wr_istore (i := 5) (by decide +kernel) (by decide) <|
  wr_aload_n (q := 0) (by decide +kernel) rfl rfl <|
  wr_invV (a := 95) (ci := 4) (mid2 := 172) (idx := 187) (b1 := 0) (b2 := 0) (c1 := 0) (c2 := 0) (as := []) (st := []) pl_172 rfl (Nat.le_of_ble_eq_true rfl) rfl rfl lq_95 sq_95 (by decide) rfl lm_M_187 im_172 is_172 (by decide +kernel) k1
theorem b_M_ways_114 {X : aX} {d : Nat} {post : aO} {vi : Nat → Nat → Int32} {vl : Nat → Nat → Int64} {x1 x2 x3 x4 x5 x6 x7 x8 : Int32} (k1 : wp X (d + 1) k_M_ways 0 0 45 [some (.ref 95), some (.int x1), some (.int x2), some (.int x3), some (.int x4), some (.int x5), some (.int (x6 + (1 : Int32))), some (.int x7), some (.int x8)] [] (mk vi vl) post) : wp X (d + 1) k_M_ways 0 0 114 [some (.ref 95), some (.int x1), some (.int x2), some (.int x3), some (.int x4), some (.int x5), some (.int x6), some (.int x7), some (.int x8)] [] (mk vi vl) post :=
  wr_iinc (i := 6) (n := 1) (v := (1 : Int32)) (by decide +kernel) rfl (by decide) (by decide) <|
  wr_goto (off := -72) (t := 45) (by decide +kernel) (by decide) k1
theorem b_M_ways_120 {X : aX} {d : Nat} {post : aO} {vi : Nat → Nat → Int32} {vl : Nat → Nat → Int64} {x1 x2 x3 x4 x5 x6 : Int32} {o7 o8 : Option Value} (k1 : ∀ w, w = up2 vl 95 11 x5.toInt64 → wp X (d + 1) k_M_ways 0 0 127 [some (.ref 95), some (.int x1), some (.int x2), some (.int x3), some (.int x4), some (.int x5), some (.int x6), o7, o8] [] (mk vi w) post) : wp X (d + 1) k_M_ways 0 0 120 [some (.ref 95), some (.int x1), some (.int x2), some (.int x3), some (.int x4), some (.int x5), some (.int x6), o7, o8] [] (mk vi vl) post :=
  wr_aload_n (q := 0) (by decide +kernel) rfl rfl <|
  wr_iload (i := 5) (by decide +kernel) rfl <|
  wr_i2l (by decide +kernel) <|
  wr_putL (ci := 4) (k0 := 11) (idx := 209) lq_95 sq_95 (by decide) (by decide) lf_M_209 rfl (by decide +kernel) <|
  k1 _ rfl
theorem b_M_ways_127 {X : aX} {d : Nat} {post : aO} {vi : Nat → Nat → Int32} {vl : Nat → Nat → Int64} {x1 x2 x3 x4 x5 x6 : Int32} {o7 o8 : Option Value} (k1 : ∀ w, w = up2 vl 95 12 (1 : Int64) → wp X (d + 1) k_M_ways 0 0 132 [some (.ref 95), some (.int x1), some (.int x2), some (.int x3), some (.int x4), some (.int x5), some (.int x6), o7, o8] [] (mk vi w) post) : wp X (d + 1) k_M_ways 0 0 127 [some (.ref 95), some (.int x1), some (.int x2), some (.int x3), some (.int x4), some (.int x5), some (.int x6), o7, o8] [] (mk vi vl) post :=
  wr_aload_n (q := 0) (by decide +kernel) rfl rfl <|
  wr_lconst (n := 1) (v := (1 : Int64)) (by decide +kernel) (by decide) <|
  wr_putL (ci := 4) (k0 := 12) (idx := 34) lq_95 sq_95 (by decide) (by decide) lf_M_34 rfl (by decide +kernel) <|
  k1 _ rfl
theorem b_M_ways_132 {X : aX} {d : Nat} {post : aO} {vi : Nat → Nat → Int32} {vl : Nat → Nat → Int64} {x1 x2 x3 x4 x5 x6 : Int32} {o7 o8 : Option Value} (k1 : post (some (.int (1 : Int32))) (mk vi vl)) : wp X (d + 1) k_M_ways 0 0 132 [some (.ref 95), some (.int x1), some (.int x2), some (.int x3), some (.int x4), some (.int x5), some (.int x6), o7, o8] [] (mk vi vl) post :=
  wr_iconst (n := 1) (v := (1 : Int32)) (by decide +kernel) (by decide) <|
  wr_ret (r := some (.int (1 : Int32))) (Or.inr (Or.inl ⟨_, rfl, (by decide +kernel), (Or.inl rfl)⟩)) k1
theorem b_M_avert_0 {X : aX} {d : Nat} {post : aO} {vi : Nat → Nat → Int32} {vl : Nat → Nat → Int64} {x1 x2 : Int32} (k1 : CallOk X d 0 0 k_M_isTold [.int x1] (mk vi vl) (fun r N' => wp X (d + 1) k_M_avert 0 0 4 [some (.ref 95), some (.int x1), some (.int x2), none] (pR r []) N' post)) : wp X (d + 1) k_M_avert 0 0 0 [some (.ref 95), some (.int x1), some (.int x2), none] [] (mk vi vl) post :=
  wr_iload_n (q := 1) (by decide +kernel) rfl rfl <|
  wr_invS (mid2 := 157) (idx := 168) (b1 := 0) (b2 := 0) (c1 := 0) (c2 := 0) (as := [.int x1]) (st := []) pl_157 rfl (Nat.le_of_ble_eq_true rfl) rfl rfl lm_M_168 it_157 (by decide +kernel) k1
theorem b_M_avert_4 {X : aX} {d : Nat} {post : aO} {vi : Nat → Nat → Int32} {vl : Nat → Nat → Int64} {x1 x2 y0 : Int32} {o3 : Option Value} (k1 : y0 = 0 → wp X (d + 1) k_M_avert 0 0 14 [some (.ref 95), some (.int x1), some (.int x2), o3] [] (mk vi vl) post) (k2 : ¬ y0 = 0 → wp X (d + 1) k_M_avert 0 0 7 [some (.ref 95), some (.int x1), some (.int x2), o3] [] (mk vi vl) post) : wp X (d + 1) k_M_avert 0 0 4 [some (.ref 95), some (.int x1), some (.int x2), o3] [.int y0] (mk vi vl) post :=
  wr_if_eq (off := 10) (t := 14) (by decide +kernel) (by decide) k1 k2
theorem b_M_avert_7 {X : aX} {d : Nat} {post : aO} {vi : Nat → Nat → Int32} {vl : Nat → Nat → Int64} {x1 x2 : Int32} {o3 : Option Value} (k1 : CallOk X d 0 0 k_M_isRow [.int x2] (mk vi vl) (fun r N' => wp X (d + 1) k_M_avert 0 0 11 [some (.ref 95), some (.int x1), some (.int x2), o3] (pR r []) N' post)) : wp X (d + 1) k_M_avert 0 0 7 [some (.ref 95), some (.int x1), some (.int x2), o3] [] (mk vi vl) post :=
  wr_iload_n (q := 2) (by decide +kernel) rfl rfl <|
  wr_invS (mid2 := 117) (idx := 65) (b1 := 0) (b2 := 0) (c1 := 0) (c2 := 0) (as := [.int x2]) (st := []) pl_117 rfl (Nat.le_of_ble_eq_true rfl) rfl rfl lm_M_65 it_117 (by decide +kernel) k1
theorem b_M_avert_11 {X : aX} {d : Nat} {post : aO} {vi : Nat → Nat → Int32} {vl : Nat → Nat → Int64} {x1 x2 y0 : Int32} {o3 : Option Value} (k1 : ¬ y0 = 0 → wp X (d + 1) k_M_avert 0 0 16 [some (.ref 95), some (.int x1), some (.int x2), o3] [] (mk vi vl) post) (k2 : y0 = 0 → wp X (d + 1) k_M_avert 0 0 14 [some (.ref 95), some (.int x1), some (.int x2), o3] [] (mk vi vl) post) : wp X (d + 1) k_M_avert 0 0 11 [some (.ref 95), some (.int x1), some (.int x2), o3] [.int y0] (mk vi vl) post :=
  wr_if_ne (off := 5) (t := 16) (by decide +kernel) (by decide) k1 k2
theorem b_M_avert_14 {X : aX} {d : Nat} {post : aO} {vi : Nat → Nat → Int32} {vl : Nat → Nat → Int64} {x1 x2 : Int32} {o3 : Option Value} (k1 : post (some (.int (-1 : Int32))) (mk vi vl)) : wp X (d + 1) k_M_avert 0 0 14 [some (.ref 95), some (.int x1), some (.int x2), o3] [] (mk vi vl) post :=
  wr_iconst (n := -1) (v := (-1 : Int32)) (by decide +kernel) (by decide) <|
  wr_ret (r := some (.int (-1 : Int32))) (Or.inr (Or.inl ⟨_, rfl, (by decide +kernel), (Or.inl rfl)⟩)) k1
theorem b_M_avert_16 {X : aX} {d : Nat} {post : aO} {vi : Nat → Nat → Int32} {vl : Nat → Nat → Int64} {x1 x2 : Int32} {o3 : Option Value} (k1 : ¬ (vi 96 0) = 0 → wp X (d + 1) k_M_avert 0 0 28 [some (.ref 95), some (.int x1), some (.int x2), o3] [] (mk vi vl) post) (k2 : (vi 96 0) = 0 → wp X (d + 1) k_M_avert 0 0 25 [some (.ref 95), some (.int x1), some (.int x2), o3] [] (mk vi vl) post) : wp X (d + 1) k_M_avert 0 0 16 [some (.ref 95), some (.int x1), some (.int x2), o3] [] (mk vi vl) post :=
  wr_aload_n (q := 0) (by decide +kernel) rfl rfl <|
  wr_getR2 (b := 96) (ci := 4) (k0 := 0) (idx := 7) lq_95 sq_95 (by decide) (by decide) lf_M_7 rfl vq_95_0 lq_96 (by decide +kernel) <|
  wr_iconst (n := 0) (v := (0 : Int32)) (by decide +kernel) (by decide) <|
  wr_iald lq_96 sq_96 (by unfold vp_in; decide) (by decide +kernel) <|
  wr_if_ne (off := 6) (t := 28) (by decide +kernel) (by decide) k1 k2
theorem b_M_avert_25 {X : aX} {d : Nat} {post : aO} {vi : Nat → Nat → Int32} {vl : Nat → Nat → Int64} {x1 x2 : Int32} {o3 : Option Value} (k1 : post (some (.int (-4 : Int32))) (mk vi vl)) : wp X (d + 1) k_M_avert 0 0 25 [some (.ref 95), some (.int x1), some (.int x2), o3] [] (mk vi vl) post :=
  wr_bipush (n := -4) (v := (-4 : Int32)) (by decide +kernel) (by decide) <|
  wr_ret (r := some (.int (-4 : Int32))) (Or.inr (Or.inl ⟨_, rfl, (by decide +kernel), (Or.inl rfl)⟩)) k1
theorem b_M_avert_28 {X : aX} {d : Nat} {post : aO} {vi : Nat → Nat → Int32} {vl : Nat → Nat → Int64} {x1 x2 : Int32} {o3 : Option Value} (k1 : CallOk X d 0 0 k_M_fewest [.ref 95, .int x1, .int (-9 : Int32)] (mk vi vl) (fun r N' => wp X (d + 1) k_M_avert 0 0 35 [some (.ref 95), some (.int x1), some (.int x2), o3] (pR r []) N' post)) : wp X (d + 1) k_M_avert 0 0 28 [some (.ref 95), some (.int x1), some (.int x2), o3] [] (mk vi vl) post :=
  wr_aload_n (q := 0) (by decide +kernel) rfl rfl <|
  wr_iload_n (q := 1) (by decide +kernel) rfl rfl <|
  wr_bipush (n := -9) (v := (-9 : Int32)) (by decide +kernel) (by decide) <|
  wr_invV (a := 95) (ci := 4) (mid2 := 175) (idx := 203) (b1 := 0) (b2 := 0) (c1 := 0) (c2 := 0) (as := [.int x1, .int (-9 : Int32)]) (st := []) pl_175 rfl (Nat.le_of_ble_eq_true rfl) rfl rfl lq_95 sq_95 (by decide) rfl lm_M_203 im_175 is_175 (by decide +kernel) k1
theorem b_M_avert_35 {X : aX} {d : Nat} {post : aO} {vi : Nat → Nat → Int32} {vl : Nat → Nat → Int64} {x1 x2 y0 : Int32} {o3 : Option Value} (k1 : ¬ y0 = (1000000 : Int32) → wp X (d + 1) k_M_avert 0 0 45 [some (.ref 95), some (.int x1), some (.int x2), some (.int y0)] [] (mk vi vl) post) (k2 : y0 = (1000000 : Int32) → wp X (d + 1) k_M_avert 0 0 42 [some (.ref 95), some (.int x1), some (.int x2), some (.int y0)] [] (mk vi vl) post) : wp X (d + 1) k_M_avert 0 0 35 [some (.ref 95), some (.int x1), some (.int x2), o3] [.int y0] (mk vi vl) post :=
  wr_istore_n (q := 3) (by decide +kernel) rfl (by decide) <|
  wr_iload_n (q := 3) (by decide +kernel) rfl rfl <|
  wr_ldc (i := 193) (v := (1000000 : Int32)) (by decide +kernel) lk_M_193 <|
  wr_icmp_ne (off := 6) (t := 45) (by decide +kernel) (by decide) k1 k2
theorem b_M_avert_42 {X : aX} {d : Nat} {post : aO} {vi : Nat → Nat → Int32} {vl : Nat → Nat → Int64} {x1 x2 x3 : Int32} (k1 : post (some (.int (-9 : Int32))) (mk vi vl)) : wp X (d + 1) k_M_avert 0 0 42 [some (.ref 95), some (.int x1), some (.int x2), some (.int x3)] [] (mk vi vl) post :=
  wr_bipush (n := -9) (v := (-9 : Int32)) (by decide +kernel) (by decide) <|
  wr_ret (r := some (.int (-9 : Int32))) (Or.inr (Or.inl ⟨_, rfl, (by decide +kernel), (Or.inl rfl)⟩)) k1
theorem b_M_avert_45 {X : aX} {d : Nat} {post : aO} {vi : Nat → Nat → Int32} {vl : Nat → Nat → Int64} {x1 x2 x3 : Int32} (k1 : CallOk X d 0 0 k_M_tellsPlan [.ref 95, .int (vi 95 18), .int x2] (mk vi vl) (fun r N' => wp X (d + 1) k_M_avert 0 0 54 [some (.ref 95), some (.int x1), some (.int x2), some (.int x3)] (pR r []) N' post)) : wp X (d + 1) k_M_avert 0 0 45 [some (.ref 95), some (.int x1), some (.int x2), some (.int x3)] [] (mk vi vl) post :=
  wr_aload_n (q := 0) (by decide +kernel) rfl rfl <|
  wr_aload_n (q := 0) (by decide +kernel) rfl rfl <|
  wr_getI (ci := 4) (k0 := 18) (idx := 200) lq_95 sq_95 (by decide) (by decide) lf_M_200 (Or.inl rfl) (by decide +kernel) <|
  wr_iload_n (q := 2) (by decide +kernel) rfl rfl <|
  wr_invV (a := 95) (ci := 4) (mid2 := 179) (idx := 206) (b1 := 0) (b2 := 0) (c1 := 0) (c2 := 0) (as := [.int (vi 95 18), .int x2]) (st := []) pl_179 rfl (Nat.le_of_ble_eq_true rfl) rfl rfl lq_95 sq_95 (by decide) rfl lm_M_206 im_179 is_179 (by decide +kernel) k1
theorem b_M_avert_54 {X : aX} {d : Nat} {post : aO} {vi : Nat → Nat → Int32} {vl : Nat → Nat → Int64} {x1 x2 x3 : Int32} (k1 : post (some (.int x3)) (mk vi vl)) : wp X (d + 1) k_M_avert 0 0 54 [some (.ref 95), some (.int x1), some (.int x2), some (.int x3)] [] (mk vi vl) post :=
  wr_iload_n (q := 3) (by decide +kernel) rfl rfl <|
  wr_ret (r := some (.int x3)) (Or.inr (Or.inl ⟨_, rfl, (by decide +kernel), (Or.inl rfl)⟩)) k1
theorem b_M_judge_0 {X : aX} {d : Nat} {post : aO} {vi : Nat → Nat → Int32} {vl : Nat → Nat → Int64} {x1 : Int32} (k1 : CallOk X d 0 0 k_M_isRow [.int x1] (mk vi vl) (fun r N' => wp X (d + 1) k_M_judge 0 0 4 [some (.ref 95), some (.int x1), none, none, none, none] (pR r []) N' post)) : wp X (d + 1) k_M_judge 0 0 0 [some (.ref 95), some (.int x1), none, none, none, none] [] (mk vi vl) post :=
  wr_iload_n (q := 1) (by decide +kernel) rfl rfl <|
  wr_invS (mid2 := 117) (idx := 65) (b1 := 0) (b2 := 0) (c1 := 0) (c2 := 0) (as := [.int x1]) (st := []) pl_117 rfl (Nat.le_of_ble_eq_true rfl) rfl rfl lm_M_65 it_117 (by decide +kernel) k1
theorem b_M_judge_4 {X : aX} {d : Nat} {post : aO} {vi : Nat → Nat → Int32} {vl : Nat → Nat → Int64} {x1 y0 : Int32} {o2 o3 o4 o5 : Option Value} (k1 : ¬ y0 = 0 → wp X (d + 1) k_M_judge 0 0 9 [some (.ref 95), some (.int x1), o2, o3, o4, o5] [] (mk vi vl) post) (k2 : y0 = 0 → wp X (d + 1) k_M_judge 0 0 7 [some (.ref 95), some (.int x1), o2, o3, o4, o5] [] (mk vi vl) post) : wp X (d + 1) k_M_judge 0 0 4 [some (.ref 95), some (.int x1), o2, o3, o4, o5] [.int y0] (mk vi vl) post :=
  wr_if_ne (off := 5) (t := 9) (by decide +kernel) (by decide) k1 k2
theorem b_M_judge_7 {X : aX} {d : Nat} {post : aO} {vi : Nat → Nat → Int32} {vl : Nat → Nat → Int64} {x1 : Int32} {o2 o3 o4 o5 : Option Value} (k1 : post (some (.int (-1 : Int32))) (mk vi vl)) : wp X (d + 1) k_M_judge 0 0 7 [some (.ref 95), some (.int x1), o2, o3, o4, o5] [] (mk vi vl) post :=
  wr_iconst (n := -1) (v := (-1 : Int32)) (by decide +kernel) (by decide) <|
  wr_ret (r := some (.int (-1 : Int32))) (Or.inr (Or.inl ⟨_, rfl, (by decide +kernel), (Or.inl rfl)⟩)) k1
theorem b_M_judge_9 {X : aX} {d : Nat} {post : aO} {vi : Nat → Nat → Int32} {vl : Nat → Nat → Int64} {x1 : Int32} {o2 o3 o4 o5 : Option Value} (k1 : ¬ (vi 96 0) = 0 → wp X (d + 1) k_M_judge 0 0 21 [some (.ref 95), some (.int x1), o2, o3, o4, o5] [] (mk vi vl) post) (k2 : (vi 96 0) = 0 → wp X (d + 1) k_M_judge 0 0 18 [some (.ref 95), some (.int x1), o2, o3, o4, o5] [] (mk vi vl) post) : wp X (d + 1) k_M_judge 0 0 9 [some (.ref 95), some (.int x1), o2, o3, o4, o5] [] (mk vi vl) post :=
  wr_aload_n (q := 0) (by decide +kernel) rfl rfl <|
  wr_getR2 (b := 96) (ci := 4) (k0 := 0) (idx := 7) lq_95 sq_95 (by decide) (by decide) lf_M_7 rfl vq_95_0 lq_96 (by decide +kernel) <|
  wr_iconst (n := 0) (v := (0 : Int32)) (by decide +kernel) (by decide) <|
  wr_iald lq_96 sq_96 (by unfold vp_in; decide) (by decide +kernel) <|
  wr_if_ne (off := 6) (t := 21) (by decide +kernel) (by decide) k1 k2
theorem b_M_judge_18 {X : aX} {d : Nat} {post : aO} {vi : Nat → Nat → Int32} {vl : Nat → Nat → Int64} {x1 : Int32} {o2 o3 o4 o5 : Option Value} (k1 : post (some (.int (-4 : Int32))) (mk vi vl)) : wp X (d + 1) k_M_judge 0 0 18 [some (.ref 95), some (.int x1), o2, o3, o4, o5] [] (mk vi vl) post :=
  wr_bipush (n := -4) (v := (-4 : Int32)) (by decide +kernel) (by decide) <|
  wr_ret (r := some (.int (-4 : Int32))) (Or.inr (Or.inl ⟨_, rfl, (by decide +kernel), (Or.inl rfl)⟩)) k1
theorem b_M_judge_21 {X : aX} {d : Nat} {post : aO} {vi : Nat → Nat → Int32} {vl : Nat → Nat → Int64} {x1 : Int32} {o2 o3 o4 o5 : Option Value} (q1 : vp_in x1 6) (k1 : 0 ≤ (vi 99 x1.toNatClampNeg) → wp X (d + 1) k_M_judge 0 0 36 [some (.ref 95), some (.int x1), o2, o3, o4, o5] [] (mk vi vl) post) (k2 : ¬ 0 ≤ (vi 99 x1.toNatClampNeg) → wp X (d + 1) k_M_judge 0 0 30 [some (.ref 95), some (.int x1), o2, o3, o4, o5] [] (mk vi vl) post) : wp X (d + 1) k_M_judge 0 0 21 [some (.ref 95), some (.int x1), o2, o3, o4, o5] [] (mk vi vl) post :=
  wr_aload_n (q := 0) (by decide +kernel) rfl rfl <|
  wr_getR2 (b := 99) (ci := 4) (k0 := 4) (idx := 19) lq_95 sq_95 (by decide) (by decide) lf_M_19 rfl vq_95_4 lq_99 (by decide +kernel) <|
  wr_iload_n (q := 1) (by decide +kernel) rfl rfl <|
  wr_iald lq_99 sq_99 q1 (by decide +kernel) <|
  wr_if_ge (off := 9) (t := 36) (by decide +kernel) (by decide) k1 k2
theorem b_M_judge_30 {X : aX} {d : Nat} {post : aO} {vi : Nat → Nat → Int32} {vl : Nat → Nat → Int64} {x1 : Int32} {o2 o3 o4 o5 : Option Value} (k1 : CallOk X d 0 0 k_M_found [.ref 95, .int (1 : Int32)] (mk vi vl) (fun r N' => wp X (d + 1) k_M_judge 0 0 35 [some (.ref 95), some (.int x1), o2, o3, o4, o5] (pR r []) N' post)) : wp X (d + 1) k_M_judge 0 0 30 [some (.ref 95), some (.int x1), o2, o3, o4, o5] [] (mk vi vl) post :=
  wr_aload_n (q := 0) (by decide +kernel) rfl rfl <|
  wr_iconst (n := 1) (v := (1 : Int32)) (by decide +kernel) (by decide) <|
  wr_invV (a := 95) (ci := 4) (mid2 := 119) (idx := 69) (b1 := 0) (b2 := 0) (c1 := 0) (c2 := 0) (as := [.int (1 : Int32)]) (st := []) pl_119 rfl (Nat.le_of_ble_eq_true rfl) rfl rfl lq_95 sq_95 (by decide) rfl lm_M_69 im_119 is_119 (by decide +kernel) k1
theorem b_M_judge_35 {X : aX} {d : Nat} {post : aO} {vi : Nat → Nat → Int32} {vl : Nat → Nat → Int64} {x1 y0 : Int32} {o2 o3 o4 o5 : Option Value} (k1 : post (some (.int y0)) (mk vi vl)) : wp X (d + 1) k_M_judge 0 0 35 [some (.ref 95), some (.int x1), o2, o3, o4, o5] [.int y0] (mk vi vl) post :=
  wr_ret (r := some (.int y0)) (Or.inr (Or.inl ⟨_, rfl, (by decide +kernel), (Or.inl rfl)⟩)) k1
theorem b_M_judge_36 {X : aX} {d : Nat} {post : aO} {vi : Nat → Nat → Int32} {vl : Nat → Nat → Int64} {x1 : Int32} {o2 o3 o4 o5 : Option Value} (q1 : vp_in x1 6) (k1 : (vi 99 x1.toNatClampNeg) = (vi 96 0) → wp X (d + 1) k_M_judge 0 0 57 [some (.ref 95), some (.int x1), o2, o3, o4, o5] [] (mk vi vl) post) (k2 : ¬ (vi 99 x1.toNatClampNeg) = (vi 96 0) → wp X (d + 1) k_M_judge 0 0 51 [some (.ref 95), some (.int x1), o2, o3, o4, o5] [] (mk vi vl) post) : wp X (d + 1) k_M_judge 0 0 36 [some (.ref 95), some (.int x1), o2, o3, o4, o5] [] (mk vi vl) post :=
  wr_aload_n (q := 0) (by decide +kernel) rfl rfl <|
  wr_getR2 (b := 99) (ci := 4) (k0 := 4) (idx := 19) lq_95 sq_95 (by decide) (by decide) lf_M_19 rfl vq_95_4 lq_99 (by decide +kernel) <|
  wr_iload_n (q := 1) (by decide +kernel) rfl rfl <|
  wr_iald lq_99 sq_99 q1 (by decide +kernel) <|
  wr_aload_n (q := 0) (by decide +kernel) rfl rfl <|
  wr_getR2 (b := 96) (ci := 4) (k0 := 0) (idx := 7) lq_95 sq_95 (by decide) (by decide) lf_M_7 rfl vq_95_0 lq_96 (by decide +kernel) <|
  wr_iconst (n := 0) (v := (0 : Int32)) (by decide +kernel) (by decide) <|
  wr_iald lq_96 sq_96 (by unfold vp_in; decide) (by decide +kernel) <|
  wr_icmp_eq (off := 9) (t := 57) (by decide +kernel) (by decide) k1 k2
theorem b_M_judge_51 {X : aX} {d : Nat} {post : aO} {vi : Nat → Nat → Int32} {vl : Nat → Nat → Int64} {x1 : Int32} {o2 o3 o4 o5 : Option Value} (k1 : CallOk X d 0 0 k_M_found [.ref 95, .int (5 : Int32)] (mk vi vl) (fun r N' => wp X (d + 1) k_M_judge 0 0 56 [some (.ref 95), some (.int x1), o2, o3, o4, o5] (pR r []) N' post)) : wp X (d + 1) k_M_judge 0 0 51 [some (.ref 95), some (.int x1), o2, o3, o4, o5] [] (mk vi vl) post :=
  wr_aload_n (q := 0) (by decide +kernel) rfl rfl <|
  wr_iconst (n := 5) (v := (5 : Int32)) (by decide +kernel) (by decide) <|
  wr_invV (a := 95) (ci := 4) (mid2 := 119) (idx := 69) (b1 := 0) (b2 := 0) (c1 := 0) (c2 := 0) (as := [.int (5 : Int32)]) (st := []) pl_119 rfl (Nat.le_of_ble_eq_true rfl) rfl rfl lq_95 sq_95 (by decide) rfl lm_M_69 im_119 is_119 (by decide +kernel) k1
theorem b_M_judge_56 {X : aX} {d : Nat} {post : aO} {vi : Nat → Nat → Int32} {vl : Nat → Nat → Int64} {x1 y0 : Int32} {o2 o3 o4 o5 : Option Value} (k1 : post (some (.int y0)) (mk vi vl)) : wp X (d + 1) k_M_judge 0 0 56 [some (.ref 95), some (.int x1), o2, o3, o4, o5] [.int y0] (mk vi vl) post :=
  wr_ret (r := some (.int y0)) (Or.inr (Or.inl ⟨_, rfl, (by decide +kernel), (Or.inl rfl)⟩)) k1
theorem b_M_judge_57 {X : aX} {d : Nat} {post : aO} {vi : Nat → Nat → Int32} {vl : Nat → Nat → Int64} {x1 : Int32} {o2 o3 o4 o5 : Option Value} (k1 : wp X (d + 1) k_M_judge 0 0 61 [some (.ref 95), some (.int x1), some (.int (0 : Int32)), some (.int (0 : Int32)), o4, o5] [] (mk vi vl) post) : wp X (d + 1) k_M_judge 0 0 57 [some (.ref 95), some (.int x1), o2, o3, o4, o5] [] (mk vi vl) post :=
  wr_iconst (n := 0) (v := (0 : Int32)) (by decide +kernel) (by decide) <|
  wr_istore_n (q := 2) (by decide +kernel) rfl (by decide) <|
  wr_iconst (n := 0) (v := (0 : Int32)) (by decide +kernel) (by decide) <|
  wr_istore_n (q := 3) (by decide +kernel) rfl (by decide) <|
  k1
theorem b_M_judge_61 {X : aX} {d : Nat} {post : aO} {vi : Nat → Nat → Int32} {vl : Nat → Nat → Int64} {x1 x2 x3 : Int32} {o4 o5 : Option Value} (k1 : (vi 96 0) ≤ x3 → wp X (d + 1) k_M_judge 0 0 127 [some (.ref 95), some (.int x1), some (.int x2), some (.int x3), o4, o5] [] (mk vi vl) post) (k2 : ¬ (vi 96 0) ≤ x3 → wp X (d + 1) k_M_judge 0 0 71 [some (.ref 95), some (.int x1), some (.int x2), some (.int x3), o4, o5] [] (mk vi vl) post) : wp X (d + 1) k_M_judge 0 0 61 [some (.ref 95), some (.int x1), some (.int x2), some (.int x3), o4, o5] [] (mk vi vl) post :=
  wr_iload_n (q := 3) (by decide +kernel) rfl rfl <|
  wr_aload_n (q := 0) (by decide +kernel) rfl rfl <|
  wr_getR2 (b := 96) (ci := 4) (k0 := 0) (idx := 7) lq_95 sq_95 (by decide) (by decide) lf_M_7 rfl vq_95_0 lq_96 (by decide +kernel) <|
  wr_iconst (n := 0) (v := (0 : Int32)) (by decide +kernel) (by decide) <|
  wr_iald lq_96 sq_96 (by unfold vp_in; decide) (by decide +kernel) <|
  wr_icmp_ge (off := 59) (t := 127) (by decide +kernel) (by decide) k1 k2
theorem b_M_judge_71 {X : aX} {d : Nat} {post : aO} {vi : Nat → Nat → Int32} {vl : Nat → Nat → Int64} {x1 x2 x3 : Int32} {o4 o5 : Option Value} (q1 : vp_in (((40 : Int32) * x1) + x3) 240) (k1 : CallOk X d 0 0 k_M_in [.long ((vi 98 (((40 : Int32) * x1) + x3).toNatClampNeg).toInt64), .long (0 : Int64), .long (6 : Int64)] (mk vi vl) (fun r N' => wp X (d + 1) k_M_judge 0 0 94 [some (.ref 95), some (.int x1), some (.int x2), some (.int x3), some (.int (vi 98 (((40 : Int32) * x1) + x3).toNatClampNeg)), o5] (pR r []) N' post)) : wp X (d + 1) k_M_judge 0 0 71 [some (.ref 95), some (.int x1), some (.int x2), some (.int x3), o4, o5] [] (mk vi vl) post :=
  wr_aload_n (q := 0) (by decide +kernel) rfl rfl <|
  wr_getR2 (b := 98) (ci := 4) (k0 := 3) (idx := 16) lq_95 sq_95 (by decide) (by decide) lf_M_16 rfl vq_95_3 lq_98 (by decide +kernel) <|
  wr_bipush (n := 40) (v := (40 : Int32)) (by decide +kernel) (by decide) <|
  wr_iload_n (q := 1) (by decide +kernel) rfl rfl <|
  wr_imul (by decide +kernel) <|
  wr_iload_n (q := 3) (by decide +kernel) rfl rfl <|
  wr_iadd (by decide +kernel) <|
  wr_iald lq_98 sq_98 q1 (by decide +kernel) <|
  wr_istore (i := 4) (by decide +kernel) (by decide) <|
  wr_iload (i := 4) (by decide +kernel) rfl <|
  wr_i2l (by decide +kernel) <|
  wr_lconst (n := 0) (v := (0 : Int64)) (by decide +kernel) (by decide) <|
  wr_ldc2 (i := 212) (v := (6 : Int64)) (by decide +kernel) lj_M_212 <|
  wr_invS (mid2 := 118) (idx := 59) (b1 := 0) (b2 := 0) (c1 := 0) (c2 := 0) (as := [.long ((vi 98 (((40 : Int32) * x1) + x3).toNatClampNeg).toInt64), .long (0 : Int64), .long (6 : Int64)]) (st := []) pl_118 rfl (Nat.le_of_ble_eq_true rfl) rfl rfl lm_M_59 it_118 (by decide +kernel) k1
theorem b_M_judge_94 {X : aX} {d : Nat} {post : aO} {vi : Nat → Nat → Int32} {vl : Nat → Nat → Int64} {x1 x2 x3 x4 y0 : Int32} {o5 : Option Value} (k1 : y0 = 0 → wp X (d + 1) k_M_judge 0 0 107 [some (.ref 95), some (.int x1), some (.int x2), some (.int x3), some (.int x4), o5] [] (mk vi vl) post) (k2 : ¬ y0 = 0 → wp X (d + 1) k_M_judge 0 0 97 [some (.ref 95), some (.int x1), some (.int x2), some (.int x3), some (.int x4), o5] [] (mk vi vl) post) : wp X (d + 1) k_M_judge 0 0 94 [some (.ref 95), some (.int x1), some (.int x2), some (.int x3), some (.int x4), o5] [.int y0] (mk vi vl) post :=
  wr_if_eq (off := 13) (t := 107) (by decide +kernel) (by decide) k1 k2
theorem b_M_judge_97 {X : aX} {d : Nat} {post : aO} {vi : Nat → Nat → Int32} {vl : Nat → Nat → Int64} {x1 x2 x3 x4 : Int32} {o5 : Option Value} (k1 : CallOk X d 0 0 k_M_canBe [.ref 95, .int x3, .int x4] (mk vi vl) (fun r N' => wp X (d + 1) k_M_judge 0 0 104 [some (.ref 95), some (.int x1), some (.int x2), some (.int x3), some (.int x4), o5] (pR r []) N' post)) : wp X (d + 1) k_M_judge 0 0 97 [some (.ref 95), some (.int x1), some (.int x2), some (.int x3), some (.int x4), o5] [] (mk vi vl) post :=
  wr_aload_n (q := 0) (by decide +kernel) rfl rfl <|
  wr_iload_n (q := 3) (by decide +kernel) rfl rfl <|
  wr_iload (i := 4) (by decide +kernel) rfl <|
  wr_invV (a := 95) (ci := 4) (mid2 := 178) (idx := 190) (b1 := 0) (b2 := 0) (c1 := 0) (c2 := 0) (as := [.int x3, .int x4]) (st := []) pl_178 rfl (Nat.le_of_ble_eq_true rfl) rfl rfl lq_95 sq_95 (by decide) rfl lm_M_190 im_178 is_178 (by decide +kernel) k1
theorem b_M_judge_104 {X : aX} {d : Nat} {post : aO} {vi : Nat → Nat → Int32} {vl : Nat → Nat → Int64} {x1 x2 x3 x4 y0 : Int32} {o5 : Option Value} (k1 : ¬ y0 = 0 → wp X (d + 1) k_M_judge 0 0 113 [some (.ref 95), some (.int x1), some (.int x2), some (.int x3), some (.int x4), o5] [] (mk vi vl) post) (k2 : y0 = 0 → wp X (d + 1) k_M_judge 0 0 107 [some (.ref 95), some (.int x1), some (.int x2), some (.int x3), some (.int x4), o5] [] (mk vi vl) post) : wp X (d + 1) k_M_judge 0 0 104 [some (.ref 95), some (.int x1), some (.int x2), some (.int x3), some (.int x4), o5] [.int y0] (mk vi vl) post :=
  wr_if_ne (off := 9) (t := 113) (by decide +kernel) (by decide) k1 k2
theorem b_M_judge_107 {X : aX} {d : Nat} {post : aO} {vi : Nat → Nat → Int32} {vl : Nat → Nat → Int64} {x1 x2 x3 x4 : Int32} {o5 : Option Value} (k1 : CallOk X d 0 0 k_M_found [.ref 95, .int (3 : Int32)] (mk vi vl) (fun r N' => wp X (d + 1) k_M_judge 0 0 112 [some (.ref 95), some (.int x1), some (.int x2), some (.int x3), some (.int x4), o5] (pR r []) N' post)) : wp X (d + 1) k_M_judge 0 0 107 [some (.ref 95), some (.int x1), some (.int x2), some (.int x3), some (.int x4), o5] [] (mk vi vl) post :=
  wr_aload_n (q := 0) (by decide +kernel) rfl rfl <|
  wr_iconst (n := 3) (v := (3 : Int32)) (by decide +kernel) (by decide) <|
  wr_invV (a := 95) (ci := 4) (mid2 := 119) (idx := 69) (b1 := 0) (b2 := 0) (c1 := 0) (c2 := 0) (as := [.int (3 : Int32)]) (st := []) pl_119 rfl (Nat.le_of_ble_eq_true rfl) rfl rfl lq_95 sq_95 (by decide) rfl lm_M_69 im_119 is_119 (by decide +kernel) k1
theorem b_M_judge_112 {X : aX} {d : Nat} {post : aO} {vi : Nat → Nat → Int32} {vl : Nat → Nat → Int64} {x1 x2 x3 x4 y0 : Int32} {o5 : Option Value} (k1 : post (some (.int y0)) (mk vi vl)) : wp X (d + 1) k_M_judge 0 0 112 [some (.ref 95), some (.int x1), some (.int x2), some (.int x3), some (.int x4), o5] [.int y0] (mk vi vl) post :=
  wr_ret (r := some (.int y0)) (Or.inr (Or.inl ⟨_, rfl, (by decide +kernel), (Or.inl rfl)⟩)) k1
theorem b_M_judge_113 {X : aX} {d : Nat} {post : aO} {vi : Nat → Nat → Int32} {vl : Nat → Nat → Int64} {x1 x2 x3 x4 : Int32} {o5 : Option Value} (k1 : wp X (d + 1) k_M_judge 0 0 61 [some (.ref 95), some (.int x1), some (.int (((7 : Int32) * x2) + x4)), some (.int (x3 + (1 : Int32))), some (.int x4), o5] [] (mk vi vl) post) : wp X (d + 1) k_M_judge 0 0 113 [some (.ref 95), some (.int x1), some (.int x2), some (.int x3), some (.int x4), o5] [] (mk vi vl) post :=
  wr_bipush (n := 7) (v := (7 : Int32)) (by decide +kernel) (by decide) <|
  wr_iload_n (q := 2) (by decide +kernel) rfl rfl <|
  wr_imul (by decide +kernel) <|
  wr_iload (i := 4) (by decide +kernel) rfl <|
  wr_iadd (by decide +kernel) <|
  wr_istore_n (q := 2) (by decide +kernel) rfl (by decide) <|
  wr_iinc (i := 3) (n := 1) (v := (1 : Int32)) (by decide +kernel) rfl (by decide) (by decide) <|
  wr_goto (off := -63) (t := 61) (by decide +kernel) (by decide) k1
theorem b_M_judge_127 {X : aX} {d : Nat} {post : aO} {vi : Nat → Nat → Int32} {vl : Nat → Nat → Int64} {x1 x2 x3 : Int32} {o4 o5 : Option Value} (k1 : CallOk X d 0 0 k_M_lays [.ref 95] (mk vi vl) (fun r N' => wp X (d + 1) k_M_judge 0 0 131 [some (.ref 95), some (.int x1), some (.int x2), some (.int x3), o4, o5] (pR r []) N' post)) : wp X (d + 1) k_M_judge 0 0 127 [some (.ref 95), some (.int x1), some (.int x2), some (.int x3), o4, o5] [] (mk vi vl) post :=
  wr_aload_n (q := 0) (by decide +kernel) rfl rfl <|
  wr_invV (a := 95) (ci := 4) (mid2 := 171) (idx := 184) (b1 := 0) (b2 := 0) (c1 := 0) (c2 := 0) (as := []) (st := []) pl_171 rfl (Nat.le_of_ble_eq_true rfl) rfl rfl lq_95 sq_95 (by decide) rfl lm_M_184 im_171 is_171 (by decide +kernel) k1
theorem b_M_judge_131 {X : aX} {d : Nat} {post : aO} {vi : Nat → Nat → Int32} {vl : Nat → Nat → Int64} {x1 x2 x3 : Int32} {o4 o5 : Option Value} (k1 : CallOk X d 0 0 k_M_does [.ref 95, .int x2] (mk vi vl) (fun r N' => wp X (d + 1) k_M_judge 0 0 136 [some (.ref 95), some (.int x1), some (.int x2), some (.int x3), o4, o5] (pR r []) N' post)) : wp X (d + 1) k_M_judge 0 0 131 [some (.ref 95), some (.int x1), some (.int x2), some (.int x3), o4, o5] [] (mk vi vl) post :=
  wr_aload_n (q := 0) (by decide +kernel) rfl rfl <|
  wr_iload_n (q := 2) (by decide +kernel) rfl rfl <|
  wr_invV (a := 95) (ci := 4) (mid2 := 177) (idx := 197) (b1 := 0) (b2 := 0) (c1 := 0) (c2 := 0) (as := [.int x2]) (st := []) pl_177 rfl (Nat.le_of_ble_eq_true rfl) rfl rfl lq_95 sq_95 (by decide) rfl lm_M_197 im_177 is_177 (by decide +kernel) k1
theorem b_M_judge_136 {X : aX} {d : Nat} {post : aO} {vi : Nat → Nat → Int32} {vl : Nat → Nat → Int64} {x1 x2 x3 y0 : Int32} {o4 o5 : Option Value} (k1 : CallOk X d 0 0 k_M_brokenNow [.ref 95] (mk vi vl) (fun r N' => wp X (d + 1) k_M_judge 0 0 141 [some (.ref 95), some (.int x1), some (.int x2), some (.int y0), o4, o5] (pR r []) N' post)) : wp X (d + 1) k_M_judge 0 0 136 [some (.ref 95), some (.int x1), some (.int x2), some (.int x3), o4, o5] [.int y0] (mk vi vl) post :=
  wr_istore_n (q := 3) (by decide +kernel) rfl (by decide) <|
  wr_aload_n (q := 0) (by decide +kernel) rfl rfl <|
  wr_invV (a := 95) (ci := 4) (mid2 := 161) (idx := 177) (b1 := 0) (b2 := 0) (c1 := 0) (c2 := 0) (as := []) (st := []) pl_161 rfl (Nat.le_of_ble_eq_true rfl) rfl rfl lq_95 sq_95 (by decide) rfl lm_M_177 im_161 is_161 (by decide +kernel) k1
theorem b_M_judge_141 {X : aX} {d : Nat} {post : aO} {vi : Nat → Nat → Int32} {vl : Nat → Nat → Int64} {x1 x2 x3 y0 : Int32} {o4 o5 : Option Value} (k1 : CallOk X d 0 0 k_M_happening [.ref 95] (mk vi vl) (fun r N' => wp X (d + 1) k_M_judge 0 0 147 [some (.ref 95), some (.int x1), some (.int x2), some (.int x3), some (.int y0), o5] (pR r []) N' post)) : wp X (d + 1) k_M_judge 0 0 141 [some (.ref 95), some (.int x1), some (.int x2), some (.int x3), o4, o5] [.int y0] (mk vi vl) post :=
  wr_istore (i := 4) (by decide +kernel) (by decide) <|
  wr_aload_n (q := 0) (by decide +kernel) rfl rfl <|
  wr_invV (a := 95) (ci := 4) (mid2 := 183) (idx := 214) (b1 := 0) (b2 := 0) (c1 := 0) (c2 := 0) (as := []) (st := []) pl_183 rfl (Nat.le_of_ble_eq_true rfl) rfl rfl lq_95 sq_95 (by decide) rfl lm_M_214 im_183 is_183 (by decide +kernel) k1
theorem b_M_judge_147 {X : aX} {d : Nat} {post : aO} {vi : Nat → Nat → Int32} {vl : Nat → Nat → Int64} {x1 x2 x3 x4 y0 : Int32} {o5 : Option Value} (k1 : CallOk X d 0 0 k_M_putsBack [.ref 95] (mk vi vl) (fun r N' => wp X (d + 1) k_M_judge 0 0 153 [some (.ref 95), some (.int x1), some (.int x2), some (.int x3), some (.int x4), some (.int y0)] (pR r []) N' post)) : wp X (d + 1) k_M_judge 0 0 147 [some (.ref 95), some (.int x1), some (.int x2), some (.int x3), some (.int x4), o5] [.int y0] (mk vi vl) post :=
  wr_istore (i := 5) (by decide +kernel) (by decide) <|
  wr_aload_n (q := 0) (by decide +kernel) rfl rfl <|
  wr_invV (a := 95) (ci := 4) (mid2 := 172) (idx := 187) (b1 := 0) (b2 := 0) (c1 := 0) (c2 := 0) (as := []) (st := []) pl_172 rfl (Nat.le_of_ble_eq_true rfl) rfl rfl lq_95 sq_95 (by decide) rfl lm_M_187 im_172 is_172 (by decide +kernel) k1
theorem b_M_judge_153 {X : aX} {d : Nat} {post : aO} {vi : Nat → Nat → Int32} {vl : Nat → Nat → Int64} {x1 x2 x3 x4 x5 : Int32} (k1 : 0 ≤ x3 → wp X (d + 1) k_M_judge 0 0 161 [some (.ref 95), some (.int x1), some (.int x2), some (.int x3), some (.int x4), some (.int x5)] [] (mk vi vl) post) (k2 : ¬ 0 ≤ x3 → wp X (d + 1) k_M_judge 0 0 157 [some (.ref 95), some (.int x1), some (.int x2), some (.int x3), some (.int x4), some (.int x5)] [] (mk vi vl) post) : wp X (d + 1) k_M_judge 0 0 153 [some (.ref 95), some (.int x1), some (.int x2), some (.int x3), some (.int x4), some (.int x5)] [] (mk vi vl) post :=
  wr_iload_n (q := 3) (by decide +kernel) rfl rfl <|
  wr_if_ge (off := 7) (t := 161) (by decide +kernel) (by decide) k1 k2
theorem b_M_judge_157 {X : aX} {d : Nat} {post : aO} {vi : Nat → Nat → Int32} {vl : Nat → Nat → Int64} {x1 x2 x3 x4 x5 : Int32} (k1 : wp X (d + 1) k_M_judge 0 0 172 [some (.ref 95), some (.int x1), some (.int x2), some (.int x3), some (.int x4), some (.int x5)] [.int (-1 : Int32)] (mk vi vl) post) : wp X (d + 1) k_M_judge 0 0 157 [some (.ref 95), some (.int x1), some (.int x2), some (.int x3), some (.int x4), some (.int x5)] [] (mk vi vl) post :=
  wr_iconst (n := -1) (v := (-1 : Int32)) (by decide +kernel) (by decide) <|
  wr_goto (off := 14) (t := 172) (by decide +kernel) (by decide) k1
theorem b_M_judge_161 {X : aX} {d : Nat} {post : aO} {vi : Nat → Nat → Int32} {vl : Nat → Nat → Int64} {x1 x2 x3 x4 x5 : Int32} (k1 : CallOk X d 0 0 k_M_ones [.int x4] (mk vi vl) (fun r N' => wp X (d + 1) k_M_judge 0 0 169 [some (.ref 95), some (.int x1), some (.int x2), some (.int x3), some (.int x4), some (.int x5)] (pR r [.int x5, .ref 95]) N' post)) : wp X (d + 1) k_M_judge 0 0 161 [some (.ref 95), some (.int x1), some (.int x2), some (.int x3), some (.int x4), some (.int x5)] [] (mk vi vl) post :=
  wr_aload_n (q := 0) (by decide +kernel) rfl rfl <|
  wr_iload (i := 5) (by decide +kernel) rfl <|
  wr_iload (i := 4) (by decide +kernel) rfl <|
  wr_invS (mid2 := 153) (idx := 142) (b1 := 0) (b2 := 0) (c1 := 0) (c2 := 0) (as := [.int x4]) (st := [.int x5, .ref 95]) pl_153 rfl (Nat.le_of_ble_eq_true rfl) rfl rfl lm_M_142 it_153 (by decide +kernel) k1
theorem b_M_judge_169 {X : aX} {d : Nat} {post : aO} {vi : Nat → Nat → Int32} {vl : Nat → Nat → Int64} {x1 x2 x3 x4 x5 y1 y2 : Int32} (k1 : CallOk X d 0 0 k_M_tells [.ref 95, .int y1, .int y2] (mk vi vl) (fun r N' => wp X (d + 1) k_M_judge 0 0 172 [some (.ref 95), some (.int x1), some (.int x2), some (.int x3), some (.int x4), some (.int x5)] (pR r []) N' post)) : wp X (d + 1) k_M_judge 0 0 169 [some (.ref 95), some (.int x1), some (.int x2), some (.int x3), some (.int x4), some (.int x5)] [.int y2, .int y1, .ref 95] (mk vi vl) post :=
  wr_invV (a := 95) (ci := 4) (mid2 := 123) (idx := 81) (b1 := 0) (b2 := 0) (c1 := 0) (c2 := 0) (as := [.int y1, .int y2]) (st := []) pl_123 rfl (Nat.le_of_ble_eq_true rfl) rfl rfl lq_95 sq_95 (by decide) rfl lm_M_81 im_123 is_123 (by decide +kernel) k1
theorem b_M_judge_172 {X : aX} {d : Nat} {post : aO} {vi : Nat → Nat → Int32} {vl : Nat → Nat → Int64} {x1 x2 x3 x4 x5 y0 : Int32} (k1 : post (some (.int y0)) (mk vi vl)) : wp X (d + 1) k_M_judge 0 0 172 [some (.ref 95), some (.int x1), some (.int x2), some (.int x3), some (.int x4), some (.int x5)] [.int y0] (mk vi vl) post :=
  wr_ret (r := some (.int y0)) (Or.inr (Or.inl ⟨_, rfl, (by decide +kernel), (Or.inl rfl)⟩)) k1
theorem b_M_happening_0 {X : aX} {d : Nat} {post : aO} {vi : Nat → Nat → Int32} {vl : Nat → Nat → Int64}  (k1 : wp X (d + 1) k_M_happening 0 0 4 [some (.ref 95), some (.int (0 : Int32)), some (.int (0 : Int32))] [] (mk vi vl) post) : wp X (d + 1) k_M_happening 0 0 0 [some (.ref 95), none, none] [] (mk vi vl) post :=
  wr_iconst (n := 0) (v := (0 : Int32)) (by decide +kernel) (by decide) <|
  wr_istore_n (q := 1) (by decide +kernel) rfl (by decide) <|
  wr_iconst (n := 0) (v := (0 : Int32)) (by decide +kernel) (by decide) <|
  wr_istore_n (q := 2) (by decide +kernel) rfl (by decide) <|
  k1
theorem b_M_happening_4 {X : aX} {d : Nat} {post : aO} {vi : Nat → Nat → Int32} {vl : Nat → Nat → Int64} {x1 x2 : Int32} (k1 : (vi 96 0) ≤ x2 → wp X (d + 1) k_M_happening 0 0 41 [some (.ref 95), some (.int x1), some (.int x2)] [] (mk vi vl) post) (k2 : ¬ (vi 96 0) ≤ x2 → wp X (d + 1) k_M_happening 0 0 14 [some (.ref 95), some (.int x1), some (.int x2)] [] (mk vi vl) post) : wp X (d + 1) k_M_happening 0 0 4 [some (.ref 95), some (.int x1), some (.int x2)] [] (mk vi vl) post :=
  wr_iload_n (q := 2) (by decide +kernel) rfl rfl <|
  wr_aload_n (q := 0) (by decide +kernel) rfl rfl <|
  wr_getR2 (b := 96) (ci := 4) (k0 := 0) (idx := 7) lq_95 sq_95 (by decide) (by decide) lf_M_7 rfl vq_95_0 lq_96 (by decide +kernel) <|
  wr_iconst (n := 0) (v := (0 : Int32)) (by decide +kernel) (by decide) <|
  wr_iald lq_96 sq_96 (by unfold vp_in; decide) (by decide +kernel) <|
  wr_icmp_ge (off := 30) (t := 41) (by decide +kernel) (by decide) k1 k2
theorem b_M_happening_14 {X : aX} {d : Nat} {post : aO} {vi : Nat → Nat → Int32} {vl : Nat → Nat → Int64} {x1 x2 : Int32} (q1 : vp_in x2 5) (k1 : ¬ (vi 104 x2.toNatClampNeg) = (-9 : Int32) → wp X (d + 1) k_M_happening 0 0 30 [some (.ref 95), some (.int x1), some (.int x2)] [.int x1] (mk vi vl) post) (k2 : (vi 104 x2.toNatClampNeg) = (-9 : Int32) → wp X (d + 1) k_M_happening 0 0 26 [some (.ref 95), some (.int x1), some (.int x2)] [.int x1] (mk vi vl) post) : wp X (d + 1) k_M_happening 0 0 14 [some (.ref 95), some (.int x1), some (.int x2)] [] (mk vi vl) post :=
  wr_iload_n (q := 1) (by decide +kernel) rfl rfl <|
  wr_aload_n (q := 0) (by decide +kernel) rfl rfl <|
  wr_getR2 (b := 104) (ci := 4) (k0 := 14) (idx := 38) lq_95 sq_95 (by decide) (by decide) lf_M_38 rfl vq_95_14 lq_104 (by decide +kernel) <|
  wr_iload_n (q := 2) (by decide +kernel) rfl rfl <|
  wr_iald lq_104 sq_104 q1 (by decide +kernel) <|
  wr_bipush (n := -9) (v := (-9 : Int32)) (by decide +kernel) (by decide) <|
  wr_icmp_ne (off := 7) (t := 30) (by decide +kernel) (by decide) k1 k2
theorem b_M_happening_26 {X : aX} {d : Nat} {post : aO} {vi : Nat → Nat → Int32} {vl : Nat → Nat → Int64} {x1 x2 y0 : Int32} (k1 : wp X (d + 1) k_M_happening 0 0 33 [some (.ref 95), some (.int x1), some (.int x2)] [.int (0 : Int32), .int y0] (mk vi vl) post) : wp X (d + 1) k_M_happening 0 0 26 [some (.ref 95), some (.int x1), some (.int x2)] [.int y0] (mk vi vl) post :=
  wr_iconst (n := 0) (v := (0 : Int32)) (by decide +kernel) (by decide) <|
  wr_goto (off := 6) (t := 33) (by decide +kernel) (by decide) k1
theorem b_M_happening_30 {X : aX} {d : Nat} {post : aO} {vi : Nat → Nat → Int32} {vl : Nat → Nat → Int64} {x1 x2 y0 : Int32} (k1 : wp X (d + 1) k_M_happening 0 0 33 [some (.ref 95), some (.int x1), some (.int x2)] [.int ((1 : Int32) <<< (x2 &&& 31)), .int y0] (mk vi vl) post) : wp X (d + 1) k_M_happening 0 0 30 [some (.ref 95), some (.int x1), some (.int x2)] [.int y0] (mk vi vl) post :=
  wr_iconst (n := 1) (v := (1 : Int32)) (by decide +kernel) (by decide) <|
  wr_iload_n (q := 2) (by decide +kernel) rfl rfl <|
  wr_ishl (by decide +kernel) <|
  k1
theorem b_M_happening_33 {X : aX} {d : Nat} {post : aO} {vi : Nat → Nat → Int32} {vl : Nat → Nat → Int64} {x1 x2 y0 y1 : Int32} (k1 : wp X (d + 1) k_M_happening 0 0 4 [some (.ref 95), some (.int (y0 ||| y1)), some (.int (x2 + (1 : Int32)))] [] (mk vi vl) post) : wp X (d + 1) k_M_happening 0 0 33 [some (.ref 95), some (.int x1), some (.int x2)] [.int y1, .int y0] (mk vi vl) post :=
  wr_ior (by decide +kernel) <|
  wr_istore_n (q := 1) (by decide +kernel) rfl (by decide) <|
  wr_iinc (i := 2) (n := 1) (v := (1 : Int32)) (by decide +kernel) rfl (by decide) (by decide) <|
  wr_goto (off := -34) (t := 4) (by decide +kernel) (by decide) k1
theorem b_M_happening_41 {X : aX} {d : Nat} {post : aO} {vi : Nat → Nat → Int32} {vl : Nat → Nat → Int64} {x1 x2 : Int32} (k1 : post (some (.int x1)) (mk vi vl)) : wp X (d + 1) k_M_happening 0 0 41 [some (.ref 95), some (.int x1), some (.int x2)] [] (mk vi vl) post :=
  wr_iload_n (q := 1) (by decide +kernel) rfl rfl <|
  wr_ret (r := some (.int x1)) (Or.inr (Or.inl ⟨_, rfl, (by decide +kernel), (Or.inl rfl)⟩)) k1
theorem b_M_was_0 {X : aX} {d : Nat} {post : aO} {vi : Nat → Nat → Int32} {vl : Nat → Nat → Int64} {x1 x2 : Int32} (k1 : CallOk X d 0 0 k_M_isYear [.ref 95, .int x1] (mk vi vl) (fun r N' => wp X (d + 1) k_M_was 0 0 5 [some (.ref 95), some (.int x1), some (.int x2), none, none, none, none] (pR r []) N' post)) : wp X (d + 1) k_M_was 0 0 0 [some (.ref 95), some (.int x1), some (.int x2), none, none, none, none] [] (mk vi vl) post :=
  wr_aload_n (q := 0) (by decide +kernel) rfl rfl <|
  wr_iload_n (q := 1) (by decide +kernel) rfl rfl <|
  wr_invV (a := 95) (ci := 4) (mid2 := 143) (idx := 151) (b1 := 0) (b2 := 0) (c1 := 0) (c2 := 0) (as := [.int x1]) (st := []) pl_143 rfl (Nat.le_of_ble_eq_true rfl) rfl rfl lq_95 sq_95 (by decide) rfl lm_M_151 im_143 is_143 (by decide +kernel) k1
theorem b_M_was_5 {X : aX} {d : Nat} {post : aO} {vi : Nat → Nat → Int32} {vl : Nat → Nat → Int64} {x1 x2 y0 : Int32} {o3 o4 o5 o6 : Option Value} (k1 : y0 = 0 → wp X (d + 1) k_M_was 0 0 15 [some (.ref 95), some (.int x1), some (.int x2), o3, o4, o5, o6] [] (mk vi vl) post) (k2 : ¬ y0 = 0 → wp X (d + 1) k_M_was 0 0 8 [some (.ref 95), some (.int x1), some (.int x2), o3, o4, o5, o6] [] (mk vi vl) post) : wp X (d + 1) k_M_was 0 0 5 [some (.ref 95), some (.int x1), some (.int x2), o3, o4, o5, o6] [.int y0] (mk vi vl) post :=
  wr_if_eq (off := 10) (t := 15) (by decide +kernel) (by decide) k1 k2
theorem b_M_was_8 {X : aX} {d : Nat} {post : aO} {vi : Nat → Nat → Int32} {vl : Nat → Nat → Int64} {x1 x2 : Int32} {o3 o4 o5 o6 : Option Value} (k1 : CallOk X d 0 0 k_M_isRow [.int x2] (mk vi vl) (fun r N' => wp X (d + 1) k_M_was 0 0 12 [some (.ref 95), some (.int x1), some (.int x2), o3, o4, o5, o6] (pR r []) N' post)) : wp X (d + 1) k_M_was 0 0 8 [some (.ref 95), some (.int x1), some (.int x2), o3, o4, o5, o6] [] (mk vi vl) post :=
  wr_iload_n (q := 2) (by decide +kernel) rfl rfl <|
  wr_invS (mid2 := 117) (idx := 65) (b1 := 0) (b2 := 0) (c1 := 0) (c2 := 0) (as := [.int x2]) (st := []) pl_117 rfl (Nat.le_of_ble_eq_true rfl) rfl rfl lm_M_65 it_117 (by decide +kernel) k1
theorem b_M_was_12 {X : aX} {d : Nat} {post : aO} {vi : Nat → Nat → Int32} {vl : Nat → Nat → Int64} {x1 x2 y0 : Int32} {o3 o4 o5 o6 : Option Value} (k1 : ¬ y0 = 0 → wp X (d + 1) k_M_was 0 0 17 [some (.ref 95), some (.int x1), some (.int x2), o3, o4, o5, o6] [] (mk vi vl) post) (k2 : y0 = 0 → wp X (d + 1) k_M_was 0 0 15 [some (.ref 95), some (.int x1), some (.int x2), o3, o4, o5, o6] [] (mk vi vl) post) : wp X (d + 1) k_M_was 0 0 12 [some (.ref 95), some (.int x1), some (.int x2), o3, o4, o5, o6] [.int y0] (mk vi vl) post :=
  wr_if_ne (off := 5) (t := 17) (by decide +kernel) (by decide) k1 k2
theorem b_M_was_15 {X : aX} {d : Nat} {post : aO} {vi : Nat → Nat → Int32} {vl : Nat → Nat → Int64} {x1 x2 : Int32} {o3 o4 o5 o6 : Option Value} (k1 : post (some (.int (-1 : Int32))) (mk vi vl)) : wp X (d + 1) k_M_was 0 0 15 [some (.ref 95), some (.int x1), some (.int x2), o3, o4, o5, o6] [] (mk vi vl) post :=
  wr_iconst (n := -1) (v := (-1 : Int32)) (by decide +kernel) (by decide) <|
  wr_ret (r := some (.int (-1 : Int32))) (Or.inr (Or.inl ⟨_, rfl, (by decide +kernel), (Or.inl rfl)⟩)) k1
theorem b_M_was_17 {X : aX} {d : Nat} {post : aO} {vi : Nat → Nat → Int32} {vl : Nat → Nat → Int64} {x1 x2 : Int32} {o3 o4 o5 o6 : Option Value} (q1 : vp_in ((2 : Int32) + x1) 5976) (k1 : (vi 96 ((2 : Int32) + x1).toNatClampNeg) = (2 : Int32) → wp X (d + 1) k_M_was 0 0 32 [some (.ref 95), some (.int x1), some (.int x2), o3, o4, o5, o6] [] (mk vi vl) post) (k2 : ¬ (vi 96 ((2 : Int32) + x1).toNatClampNeg) = (2 : Int32) → wp X (d + 1) k_M_was 0 0 29 [some (.ref 95), some (.int x1), some (.int x2), o3, o4, o5, o6] [] (mk vi vl) post) : wp X (d + 1) k_M_was 0 0 17 [some (.ref 95), some (.int x1), some (.int x2), o3, o4, o5, o6] [] (mk vi vl) post :=
  wr_aload_n (q := 0) (by decide +kernel) rfl rfl <|
  wr_getR2 (b := 96) (ci := 4) (k0 := 0) (idx := 7) lq_95 sq_95 (by decide) (by decide) lf_M_7 rfl vq_95_0 lq_96 (by decide +kernel) <|
  wr_iconst (n := 2) (v := (2 : Int32)) (by decide +kernel) (by decide) <|
  wr_iload_n (q := 1) (by decide +kernel) rfl rfl <|
  wr_iadd (by decide +kernel) <|
  wr_iald lq_96 sq_96 q1 (by decide +kernel) <|
  wr_iconst (n := 2) (v := (2 : Int32)) (by decide +kernel) (by decide) <|
  wr_icmp_eq (off := 6) (t := 32) (by decide +kernel) (by decide) k1 k2
theorem b_M_was_29 {X : aX} {d : Nat} {post : aO} {vi : Nat → Nat → Int32} {vl : Nat → Nat → Int64} {x1 x2 : Int32} {o3 o4 o5 o6 : Option Value} (k1 : post (some (.int (-4 : Int32))) (mk vi vl)) : wp X (d + 1) k_M_was 0 0 29 [some (.ref 95), some (.int x1), some (.int x2), o3, o4, o5, o6] [] (mk vi vl) post :=
  wr_bipush (n := -4) (v := (-4 : Int32)) (by decide +kernel) (by decide) <|
  wr_ret (r := some (.int (-4 : Int32))) (Or.inr (Or.inl ⟨_, rfl, (by decide +kernel), (Or.inl rfl)⟩)) k1
theorem b_M_was_32 {X : aX} {d : Nat} {post : aO} {vi : Nat → Nat → Int32} {vl : Nat → Nat → Int64} {x1 x2 : Int32} {o3 o4 o5 o6 : Option Value} (k1 : CallOk X d 0 0 k_M_against [.ref 95, .int x2] (mk vi vl) (fun r N' => wp X (d + 1) k_M_was 0 0 37 [some (.ref 95), some (.int x1), some (.int x2), o3, o4, o5, o6] (pR r []) N' post)) : wp X (d + 1) k_M_was 0 0 32 [some (.ref 95), some (.int x1), some (.int x2), o3, o4, o5, o6] [] (mk vi vl) post :=
  wr_aload_n (q := 0) (by decide +kernel) rfl rfl <|
  wr_iload_n (q := 2) (by decide +kernel) rfl rfl <|
  wr_invV (a := 95) (ci := 4) (mid2 := 185) (idx := 217) (b1 := 0) (b2 := 0) (c1 := 0) (c2 := 0) (as := [.int x2]) (st := []) pl_185 rfl (Nat.le_of_ble_eq_true rfl) rfl rfl lq_95 sq_95 (by decide) rfl lm_M_217 im_185 is_185 (by decide +kernel) k1
theorem b_M_was_37 {X : aX} {d : Nat} {post : aO} {vi : Nat → Nat → Int32} {vl : Nat → Nat → Int64} {x1 x2 y0 : Int32} {o3 o4 o5 o6 : Option Value} (k1 : 0 ≤ y0 → wp X (d + 1) k_M_was 0 0 44 [some (.ref 95), some (.int x1), some (.int x2), some (.int y0), o4, o5, o6] [] (mk vi vl) post) (k2 : ¬ 0 ≤ y0 → wp X (d + 1) k_M_was 0 0 42 [some (.ref 95), some (.int x1), some (.int x2), some (.int y0), o4, o5, o6] [] (mk vi vl) post) : wp X (d + 1) k_M_was 0 0 37 [some (.ref 95), some (.int x1), some (.int x2), o3, o4, o5, o6] [.int y0] (mk vi vl) post :=
  wr_istore_n (q := 3) (by decide +kernel) rfl (by decide) <|
  wr_iload_n (q := 3) (by decide +kernel) rfl rfl <|
  wr_if_ge (off := 5) (t := 44) (by decide +kernel) (by decide) k1 k2
theorem b_M_was_42 {X : aX} {d : Nat} {post : aO} {vi : Nat → Nat → Int32} {vl : Nat → Nat → Int64} {x1 x2 x3 : Int32} {o4 o5 o6 : Option Value} (k1 : post (some (.int x3)) (mk vi vl)) : wp X (d + 1) k_M_was 0 0 42 [some (.ref 95), some (.int x1), some (.int x2), some (.int x3), o4, o5, o6] [] (mk vi vl) post :=
  wr_iload_n (q := 3) (by decide +kernel) rfl rfl <|
  wr_ret (r := some (.int x3)) (Or.inr (Or.inl ⟨_, rfl, (by decide +kernel), (Or.inl rfl)⟩)) k1
theorem b_M_was_44 {X : aX} {d : Nat} {post : aO} {vi : Nat → Nat → Int32} {vl : Nat → Nat → Int64} {x1 x2 x3 : Int32} {o4 o5 o6 : Option Value} (q1 : vp_in ((7 : Int32) + x1) 5976) (k1 : wp X (d + 1) k_M_was 0 0 61 [some (.ref 95), some (.int x1), some (.int x2), some (.int x3), some (.int (vi 96 ((7 : Int32) + x1).toNatClampNeg)), some (.int (0 : Int32)), some (.int (0 : Int32))] [] (mk vi vl) post) : wp X (d + 1) k_M_was 0 0 44 [some (.ref 95), some (.int x1), some (.int x2), some (.int x3), o4, o5, o6] [] (mk vi vl) post :=
  wr_aload_n (q := 0) (by decide +kernel) rfl rfl <|
  wr_getR2 (b := 96) (ci := 4) (k0 := 0) (idx := 7) lq_95 sq_95 (by decide) (by decide) lf_M_7 rfl vq_95_0 lq_96 (by decide +kernel) <|
  wr_bipush (n := 7) (v := (7 : Int32)) (by decide +kernel) (by decide) <|
  wr_iload_n (q := 1) (by decide +kernel) rfl rfl <|
  wr_iadd (by decide +kernel) <|
  wr_iald lq_96 sq_96 q1 (by decide +kernel) <|
  wr_istore (i := 4) (by decide +kernel) (by decide) <|
  wr_iconst (n := 0) (v := (0 : Int32)) (by decide +kernel) (by decide) <|
  wr_istore (i := 5) (by decide +kernel) (by decide) <|
  wr_iconst (n := 0) (v := (0 : Int32)) (by decide +kernel) (by decide) <|
  wr_istore (i := 6) (by decide +kernel) (by decide) <|
  k1
theorem b_M_was_61 {X : aX} {d : Nat} {post : aO} {vi : Nat → Nat → Int32} {vl : Nat → Nat → Int64} {x1 x2 x3 x4 x5 x6 : Int32} (k1 : (5 : Int32) ≤ x6 → wp X (d + 1) k_M_was 0 0 105 [some (.ref 95), some (.int x1), some (.int x2), some (.int x3), some (.int x4), some (.int x5), some (.int x6)] [] (mk vi vl) post) (k2 : ¬ (5 : Int32) ≤ x6 → wp X (d + 1) k_M_was 0 0 67 [some (.ref 95), some (.int x1), some (.int x2), some (.int x3), some (.int x4), some (.int x5), some (.int x6)] [] (mk vi vl) post) : wp X (d + 1) k_M_was 0 0 61 [some (.ref 95), some (.int x1), some (.int x2), some (.int x3), some (.int x4), some (.int x5), some (.int x6)] [] (mk vi vl) post :=
  wr_iload (i := 6) (by decide +kernel) rfl <|
  wr_iconst (n := 5) (v := (5 : Int32)) (by decide +kernel) (by decide) <|
  wr_icmp_ge (off := 41) (t := 105) (by decide +kernel) (by decide) k1 k2
theorem b_M_was_67 {X : aX} {d : Nat} {post : aO} {vi : Nat → Nat → Int32} {vl : Nat → Nat → Int64} {x1 x2 x3 x4 x5 x6 : Int32} (q1 : vp_in ((7 : Int32) + x1) 5976) (k1 : ∀ w, w = up2 vi 96 ((7 : Int32) + x1).toNatClampNeg x6 → wp X (d + 1) k_M_was 0 0 78 [some (.ref 95), some (.int x1), some (.int x2), some (.int x3), some (.int x4), some (.int x5), some (.int x6)] [] (mk w vl) post) : wp X (d + 1) k_M_was 0 0 67 [some (.ref 95), some (.int x1), some (.int x2), some (.int x3), some (.int x4), some (.int x5), some (.int x6)] [] (mk vi vl) post :=
  wr_aload_n (q := 0) (by decide +kernel) rfl rfl <|
  wr_getR2 (b := 96) (ci := 4) (k0 := 0) (idx := 7) lq_95 sq_95 (by decide) (by decide) lf_M_7 rfl vq_95_0 lq_96 (by decide +kernel) <|
  wr_bipush (n := 7) (v := (7 : Int32)) (by decide +kernel) (by decide) <|
  wr_iload_n (q := 1) (by decide +kernel) rfl rfl <|
  wr_iadd (by decide +kernel) <|
  wr_iload (i := 6) (by decide +kernel) rfl <|
  wr_iast lq_96 sq_96 q1 (by decide +kernel) <|
  k1 _ rfl
theorem b_M_was_78 {X : aX} {d : Nat} {post : aO} {vi : Nat → Nat → Int32} {vl : Nat → Nat → Int64} {x1 x2 x3 x4 x5 x6 : Int32} (k1 : CallOk X d 0 0 k_M_isSo [.ref 95, .int x2] (mk vi vl) (fun r N' => wp X (d + 1) k_M_was 0 0 85 [some (.ref 95), some (.int x1), some (.int x2), some (.int x3), some (.int x4), some (.int x5), some (.int x6)] (pR r [.int x5]) N' post)) : wp X (d + 1) k_M_was 0 0 78 [some (.ref 95), some (.int x1), some (.int x2), some (.int x3), some (.int x4), some (.int x5), some (.int x6)] [] (mk vi vl) post :=
  wr_iload (i := 5) (by decide +kernel) rfl <|
  wr_aload_n (q := 0) (by decide +kernel) rfl rfl <|
  wr_iload_n (q := 2) (by decide +kernel) rfl rfl <|
  wr_invV (a := 95) (ci := 4) (mid2 := 186) (idx := 220) (b1 := 0) (b2 := 0) (c1 := 0) (c2 := 0) (as := [.int x2]) (st := [.int x5]) pl_186 rfl (Nat.le_of_ble_eq_true rfl) rfl rfl lq_95 sq_95 (by decide) rfl lm_M_220 im_186 is_186 (by decide +kernel) k1
theorem b_M_was_85 {X : aX} {d : Nat} {post : aO} {vi : Nat → Nat → Int32} {vl : Nat → Nat → Int64} {x1 x2 x3 x4 x5 x6 y0 y1 : Int32} (k1 : y1 = 0 → wp X (d + 1) k_M_was 0 0 95 [some (.ref 95), some (.int x1), some (.int x2), some (.int x3), some (.int x4), some (.int x5), some (.int x6)] [.int y0] (mk vi vl) post) (k2 : ¬ y1 = 0 → wp X (d + 1) k_M_was 0 0 88 [some (.ref 95), some (.int x1), some (.int x2), some (.int x3), some (.int x4), some (.int x5), some (.int x6)] [.int y0] (mk vi vl) post) : wp X (d + 1) k_M_was 0 0 85 [some (.ref 95), some (.int x1), some (.int x2), some (.int x3), some (.int x4), some (.int x5), some (.int x6)] [.int y1, .int y0] (mk vi vl) post :=
  wr_if_eq (off := 10) (t := 95) (by decide +kernel) (by decide) k1 k2
theorem b_M_was_88 {X : aX} {d : Nat} {post : aO} {vi : Nat → Nat → Int32} {vl : Nat → Nat → Int64} {x1 x2 x3 x4 x5 x6 y0 : Int32} (k1 : wp X (d + 1) k_M_was 0 0 96 [some (.ref 95), some (.int x1), some (.int x2), some (.int x3), some (.int x4), some (.int x5), some (.int x6)] [.int ((1 : Int32) <<< (x6 &&& 31)), .int y0] (mk vi vl) post) : wp X (d + 1) k_M_was 0 0 88 [some (.ref 95), some (.int x1), some (.int x2), some (.int x3), some (.int x4), some (.int x5), some (.int x6)] [.int y0] (mk vi vl) post :=
  wr_iconst (n := 1) (v := (1 : Int32)) (by decide +kernel) (by decide) <|
  wr_iload (i := 6) (by decide +kernel) rfl <|
  wr_ishl (by decide +kernel) <|
  wr_goto (off := 4) (t := 96) (by decide +kernel) (by decide) k1
theorem b_M_was_95 {X : aX} {d : Nat} {post : aO} {vi : Nat → Nat → Int32} {vl : Nat → Nat → Int64} {x1 x2 x3 x4 x5 x6 y0 : Int32} (k1 : wp X (d + 1) k_M_was 0 0 96 [some (.ref 95), some (.int x1), some (.int x2), some (.int x3), some (.int x4), some (.int x5), some (.int x6)] [.int (0 : Int32), .int y0] (mk vi vl) post) : wp X (d + 1) k_M_was 0 0 95 [some (.ref 95), some (.int x1), some (.int x2), some (.int x3), some (.int x4), some (.int x5), some (.int x6)] [.int y0] (mk vi vl) post :=
  wr_iconst (n := 0) (v := (0 : Int32)) (by decide +kernel) (by decide) <|
  k1
theorem b_M_was_96 {X : aX} {d : Nat} {post : aO} {vi : Nat → Nat → Int32} {vl : Nat → Nat → Int64} {x1 x2 x3 x4 x5 x6 y0 y1 : Int32} (k1 : wp X (d + 1) k_M_was 0 0 61 [some (.ref 95), some (.int x1), some (.int x2), some (.int x3), some (.int x4), some (.int (y0 ||| y1)), some (.int (x6 + (1 : Int32)))] [] (mk vi vl) post) : wp X (d + 1) k_M_was 0 0 96 [some (.ref 95), some (.int x1), some (.int x2), some (.int x3), some (.int x4), some (.int x5), some (.int x6)] [.int y1, .int y0] (mk vi vl) post :=
  wr_ior (by decide +kernel) <|
  wr_istore (i := 5) (by decide +kernel) (by decide) <|
  wr_iinc (i := 6) (n := 1) (v := (1 : Int32)) (by decide +kernel) rfl (by decide) (by decide) <|
  wr_goto (off := -41) (t := 61) (by decide +kernel) (by decide) k1
theorem b_M_was_105 {X : aX} {d : Nat} {post : aO} {vi : Nat → Nat → Int32} {vl : Nat → Nat → Int64} {x1 x2 x3 x4 x5 x6 : Int32} (q1 : vp_in ((7 : Int32) + x1) 5976) (k1 : ∀ w, w = up2 vi 96 ((7 : Int32) + x1).toNatClampNeg x4 → wp X (d + 1) k_M_was 0 0 116 [some (.ref 95), some (.int x1), some (.int x2), some (.int x3), some (.int x4), some (.int x5), some (.int x6)] [] (mk w vl) post) : wp X (d + 1) k_M_was 0 0 105 [some (.ref 95), some (.int x1), some (.int x2), some (.int x3), some (.int x4), some (.int x5), some (.int x6)] [] (mk vi vl) post :=
  wr_aload_n (q := 0) (by decide +kernel) rfl rfl <|
  wr_getR2 (b := 96) (ci := 4) (k0 := 0) (idx := 7) lq_95 sq_95 (by decide) (by decide) lf_M_7 rfl vq_95_0 lq_96 (by decide +kernel) <|
  wr_bipush (n := 7) (v := (7 : Int32)) (by decide +kernel) (by decide) <|
  wr_iload_n (q := 1) (by decide +kernel) rfl rfl <|
  wr_iadd (by decide +kernel) <|
  wr_iload (i := 4) (by decide +kernel) rfl <|
  wr_iast lq_96 sq_96 q1 (by decide +kernel) <|
  k1 _ rfl
theorem b_M_was_116 {X : aX} {d : Nat} {post : aO} {vi : Nat → Nat → Int32} {vl : Nat → Nat → Int64} {x1 x2 x3 x4 x5 x6 : Int32} (k1 : post (some (.int x5)) (mk vi vl)) : wp X (d + 1) k_M_was 0 0 116 [some (.ref 95), some (.int x1), some (.int x2), some (.int x3), some (.int x4), some (.int x5), some (.int x6)] [] (mk vi vl) post :=
  wr_iload (i := 5) (by decide +kernel) rfl <|
  wr_ret (r := some (.int x5)) (Or.inr (Or.inl ⟨_, rfl, (by decide +kernel), (Or.inl rfl)⟩)) k1
theorem b_M_against_0 {X : aX} {d : Nat} {post : aO} {vi : Nat → Nat → Int32} {vl : Nat → Nat → Int64} {x1 : Int32} (q1 : vp_in x1 6) (k1 : 0 ≤ (vi 99 x1.toNatClampNeg) → wp X (d + 1) k_M_against 0 0 15 [some (.ref 95), some (.int x1), none, none] [] (mk vi vl) post) (k2 : ¬ 0 ≤ (vi 99 x1.toNatClampNeg) → wp X (d + 1) k_M_against 0 0 9 [some (.ref 95), some (.int x1), none, none] [] (mk vi vl) post) : wp X (d + 1) k_M_against 0 0 0 [some (.ref 95), some (.int x1), none, none] [] (mk vi vl) post :=
  wr_aload_n (q := 0) (by decide +kernel) rfl rfl <|
  wr_getR2 (b := 99) (ci := 4) (k0 := 4) (idx := 19) lq_95 sq_95 (by decide) (by decide) lf_M_19 rfl vq_95_4 lq_99 (by decide +kernel) <|
  wr_iload_n (q := 1) (by decide +kernel) rfl rfl <|
  wr_iald lq_99 sq_99 q1 (by decide +kernel) <|
  wr_if_ge (off := 9) (t := 15) (by decide +kernel) (by decide) k1 k2
theorem b_M_against_9 {X : aX} {d : Nat} {post : aO} {vi : Nat → Nat → Int32} {vl : Nat → Nat → Int64} {x1 : Int32} {o2 o3 : Option Value} (k1 : CallOk X d 0 0 k_M_found [.ref 95, .int (1 : Int32)] (mk vi vl) (fun r N' => wp X (d + 1) k_M_against 0 0 14 [some (.ref 95), some (.int x1), o2, o3] (pR r []) N' post)) : wp X (d + 1) k_M_against 0 0 9 [some (.ref 95), some (.int x1), o2, o3] [] (mk vi vl) post :=
  wr_aload_n (q := 0) (by decide +kernel) rfl rfl <|
  wr_iconst (n := 1) (v := (1 : Int32)) (by decide +kernel) (by decide) <|
  wr_invV (a := 95) (ci := 4) (mid2 := 119) (idx := 69) (b1 := 0) (b2 := 0) (c1 := 0) (c2 := 0) (as := [.int (1 : Int32)]) (st := []) pl_119 rfl (Nat.le_of_ble_eq_true rfl) rfl rfl lq_95 sq_95 (by decide) rfl lm_M_69 im_119 is_119 (by decide +kernel) k1
theorem b_M_against_14 {X : aX} {d : Nat} {post : aO} {vi : Nat → Nat → Int32} {vl : Nat → Nat → Int64} {x1 y0 : Int32} {o2 o3 : Option Value} (k1 : post (some (.int y0)) (mk vi vl)) : wp X (d + 1) k_M_against 0 0 14 [some (.ref 95), some (.int x1), o2, o3] [.int y0] (mk vi vl) post :=
  wr_ret (r := some (.int y0)) (Or.inr (Or.inl ⟨_, rfl, (by decide +kernel), (Or.inl rfl)⟩)) k1
theorem b_M_against_15 {X : aX} {d : Nat} {post : aO} {vi : Nat → Nat → Int32} {vl : Nat → Nat → Int64} {x1 : Int32} {o2 o3 : Option Value} (q1 : vp_in x1 6) (k1 : (vi 99 x1.toNatClampNeg) = (vi 96 0) → wp X (d + 1) k_M_against 0 0 36 [some (.ref 95), some (.int x1), o2, o3] [] (mk vi vl) post) (k2 : ¬ (vi 99 x1.toNatClampNeg) = (vi 96 0) → wp X (d + 1) k_M_against 0 0 30 [some (.ref 95), some (.int x1), o2, o3] [] (mk vi vl) post) : wp X (d + 1) k_M_against 0 0 15 [some (.ref 95), some (.int x1), o2, o3] [] (mk vi vl) post :=
  wr_aload_n (q := 0) (by decide +kernel) rfl rfl <|
  wr_getR2 (b := 99) (ci := 4) (k0 := 4) (idx := 19) lq_95 sq_95 (by decide) (by decide) lf_M_19 rfl vq_95_4 lq_99 (by decide +kernel) <|
  wr_iload_n (q := 1) (by decide +kernel) rfl rfl <|
  wr_iald lq_99 sq_99 q1 (by decide +kernel) <|
  wr_aload_n (q := 0) (by decide +kernel) rfl rfl <|
  wr_getR2 (b := 96) (ci := 4) (k0 := 0) (idx := 7) lq_95 sq_95 (by decide) (by decide) lf_M_7 rfl vq_95_0 lq_96 (by decide +kernel) <|
  wr_iconst (n := 0) (v := (0 : Int32)) (by decide +kernel) (by decide) <|
  wr_iald lq_96 sq_96 (by unfold vp_in; decide) (by decide +kernel) <|
  wr_icmp_eq (off := 9) (t := 36) (by decide +kernel) (by decide) k1 k2
theorem b_M_against_30 {X : aX} {d : Nat} {post : aO} {vi : Nat → Nat → Int32} {vl : Nat → Nat → Int64} {x1 : Int32} {o2 o3 : Option Value} (k1 : CallOk X d 0 0 k_M_found [.ref 95, .int (5 : Int32)] (mk vi vl) (fun r N' => wp X (d + 1) k_M_against 0 0 35 [some (.ref 95), some (.int x1), o2, o3] (pR r []) N' post)) : wp X (d + 1) k_M_against 0 0 30 [some (.ref 95), some (.int x1), o2, o3] [] (mk vi vl) post :=
  wr_aload_n (q := 0) (by decide +kernel) rfl rfl <|
  wr_iconst (n := 5) (v := (5 : Int32)) (by decide +kernel) (by decide) <|
  wr_invV (a := 95) (ci := 4) (mid2 := 119) (idx := 69) (b1 := 0) (b2 := 0) (c1 := 0) (c2 := 0) (as := [.int (5 : Int32)]) (st := []) pl_119 rfl (Nat.le_of_ble_eq_true rfl) rfl rfl lq_95 sq_95 (by decide) rfl lm_M_69 im_119 is_119 (by decide +kernel) k1
theorem b_M_against_35 {X : aX} {d : Nat} {post : aO} {vi : Nat → Nat → Int32} {vl : Nat → Nat → Int64} {x1 y0 : Int32} {o2 o3 : Option Value} (k1 : post (some (.int y0)) (mk vi vl)) : wp X (d + 1) k_M_against 0 0 35 [some (.ref 95), some (.int x1), o2, o3] [.int y0] (mk vi vl) post :=
  wr_ret (r := some (.int y0)) (Or.inr (Or.inl ⟨_, rfl, (by decide +kernel), (Or.inl rfl)⟩)) k1
theorem b_M_against_36 {X : aX} {d : Nat} {post : aO} {vi : Nat → Nat → Int32} {vl : Nat → Nat → Int64} {x1 : Int32} {o2 o3 : Option Value} (k1 : wp X (d + 1) k_M_against 0 0 38 [some (.ref 95), some (.int x1), some (.int (0 : Int32)), o3] [] (mk vi vl) post) : wp X (d + 1) k_M_against 0 0 36 [some (.ref 95), some (.int x1), o2, o3] [] (mk vi vl) post :=
  wr_iconst (n := 0) (v := (0 : Int32)) (by decide +kernel) (by decide) <|
  wr_istore_n (q := 2) (by decide +kernel) rfl (by decide) <|
  k1
theorem b_M_against_38 {X : aX} {d : Nat} {post : aO} {vi : Nat → Nat → Int32} {vl : Nat → Nat → Int64} {x1 x2 : Int32} {o3 : Option Value} (k1 : (vi 96 0) ≤ x2 → wp X (d + 1) k_M_against 0 0 85 [some (.ref 95), some (.int x1), some (.int x2), o3] [] (mk vi vl) post) (k2 : ¬ (vi 96 0) ≤ x2 → wp X (d + 1) k_M_against 0 0 48 [some (.ref 95), some (.int x1), some (.int x2), o3] [] (mk vi vl) post) : wp X (d + 1) k_M_against 0 0 38 [some (.ref 95), some (.int x1), some (.int x2), o3] [] (mk vi vl) post :=
  wr_iload_n (q := 2) (by decide +kernel) rfl rfl <|
  wr_aload_n (q := 0) (by decide +kernel) rfl rfl <|
  wr_getR2 (b := 96) (ci := 4) (k0 := 0) (idx := 7) lq_95 sq_95 (by decide) (by decide) lf_M_7 rfl vq_95_0 lq_96 (by decide +kernel) <|
  wr_iconst (n := 0) (v := (0 : Int32)) (by decide +kernel) (by decide) <|
  wr_iald lq_96 sq_96 (by unfold vp_in; decide) (by decide +kernel) <|
  wr_icmp_ge (off := 40) (t := 85) (by decide +kernel) (by decide) k1 k2
theorem b_M_against_48 {X : aX} {d : Nat} {post : aO} {vi : Nat → Nat → Int32} {vl : Nat → Nat → Int64} {x1 x2 : Int32} {o3 : Option Value} (q1 : vp_in (((40 : Int32) * x1) + x2) 240) (k1 : (vi 98 (((40 : Int32) * x1) + x2).toNatClampNeg) = (-9 : Int32) → wp X (d + 1) k_M_against 0 0 79 [some (.ref 95), some (.int x1), some (.int x2), some (.int (vi 98 (((40 : Int32) * x1) + x2).toNatClampNeg))] [] (mk vi vl) post) (k2 : ¬ (vi 98 (((40 : Int32) * x1) + x2).toNatClampNeg) = (-9 : Int32) → wp X (d + 1) k_M_against 0 0 66 [some (.ref 95), some (.int x1), some (.int x2), some (.int (vi 98 (((40 : Int32) * x1) + x2).toNatClampNeg))] [] (mk vi vl) post) : wp X (d + 1) k_M_against 0 0 48 [some (.ref 95), some (.int x1), some (.int x2), o3] [] (mk vi vl) post :=
  wr_aload_n (q := 0) (by decide +kernel) rfl rfl <|
  wr_getR2 (b := 98) (ci := 4) (k0 := 3) (idx := 16) lq_95 sq_95 (by decide) (by decide) lf_M_16 rfl vq_95_3 lq_98 (by decide +kernel) <|
  wr_bipush (n := 40) (v := (40 : Int32)) (by decide +kernel) (by decide) <|
  wr_iload_n (q := 1) (by decide +kernel) rfl rfl <|
  wr_imul (by decide +kernel) <|
  wr_iload_n (q := 2) (by decide +kernel) rfl rfl <|
  wr_iadd (by decide +kernel) <|
  wr_iald lq_98 sq_98 q1 (by decide +kernel) <|
  wr_istore_n (q := 3) (by decide +kernel) rfl (by decide) <|
  wr_iload_n (q := 3) (by decide +kernel) rfl rfl <|
  wr_bipush (n := -9) (v := (-9 : Int32)) (by decide +kernel) (by decide) <|
  wr_icmp_eq (off := 16) (t := 79) (by decide +kernel) (by decide) k1 k2
theorem b_M_against_66 {X : aX} {d : Nat} {post : aO} {vi : Nat → Nat → Int32} {vl : Nat → Nat → Int64} {x1 x2 x3 : Int32} (k1 : CallOk X d 0 0 k_M_isTold [.int x3] (mk vi vl) (fun r N' => wp X (d + 1) k_M_against 0 0 70 [some (.ref 95), some (.int x1), some (.int x2), some (.int x3)] (pR r []) N' post)) : wp X (d + 1) k_M_against 0 0 66 [some (.ref 95), some (.int x1), some (.int x2), some (.int x3)] [] (mk vi vl) post :=
  wr_iload_n (q := 3) (by decide +kernel) rfl rfl <|
  wr_invS (mid2 := 157) (idx := 168) (b1 := 0) (b2 := 0) (c1 := 0) (c2 := 0) (as := [.int x3]) (st := []) pl_157 rfl (Nat.le_of_ble_eq_true rfl) rfl rfl lm_M_168 it_157 (by decide +kernel) k1
theorem b_M_against_70 {X : aX} {d : Nat} {post : aO} {vi : Nat → Nat → Int32} {vl : Nat → Nat → Int64} {x1 x2 x3 y0 : Int32} (k1 : ¬ y0 = 0 → wp X (d + 1) k_M_against 0 0 79 [some (.ref 95), some (.int x1), some (.int x2), some (.int x3)] [] (mk vi vl) post) (k2 : y0 = 0 → wp X (d + 1) k_M_against 0 0 73 [some (.ref 95), some (.int x1), some (.int x2), some (.int x3)] [] (mk vi vl) post) : wp X (d + 1) k_M_against 0 0 70 [some (.ref 95), some (.int x1), some (.int x2), some (.int x3)] [.int y0] (mk vi vl) post :=
  wr_if_ne (off := 9) (t := 79) (by decide +kernel) (by decide) k1 k2
theorem b_M_against_73 {X : aX} {d : Nat} {post : aO} {vi : Nat → Nat → Int32} {vl : Nat → Nat → Int64} {x1 x2 x3 : Int32} (k1 : CallOk X d 0 0 k_M_found [.ref 95, .int (3 : Int32)] (mk vi vl) (fun r N' => wp X (d + 1) k_M_against 0 0 78 [some (.ref 95), some (.int x1), some (.int x2), some (.int x3)] (pR r []) N' post)) : wp X (d + 1) k_M_against 0 0 73 [some (.ref 95), some (.int x1), some (.int x2), some (.int x3)] [] (mk vi vl) post :=
  wr_aload_n (q := 0) (by decide +kernel) rfl rfl <|
  wr_iconst (n := 3) (v := (3 : Int32)) (by decide +kernel) (by decide) <|
  wr_invV (a := 95) (ci := 4) (mid2 := 119) (idx := 69) (b1 := 0) (b2 := 0) (c1 := 0) (c2 := 0) (as := [.int (3 : Int32)]) (st := []) pl_119 rfl (Nat.le_of_ble_eq_true rfl) rfl rfl lq_95 sq_95 (by decide) rfl lm_M_69 im_119 is_119 (by decide +kernel) k1
theorem b_M_against_78 {X : aX} {d : Nat} {post : aO} {vi : Nat → Nat → Int32} {vl : Nat → Nat → Int64} {x1 x2 x3 y0 : Int32} (k1 : post (some (.int y0)) (mk vi vl)) : wp X (d + 1) k_M_against 0 0 78 [some (.ref 95), some (.int x1), some (.int x2), some (.int x3)] [.int y0] (mk vi vl) post :=
  wr_ret (r := some (.int y0)) (Or.inr (Or.inl ⟨_, rfl, (by decide +kernel), (Or.inl rfl)⟩)) k1
theorem b_M_against_79 {X : aX} {d : Nat} {post : aO} {vi : Nat → Nat → Int32} {vl : Nat → Nat → Int64} {x1 x2 x3 : Int32} (k1 : wp X (d + 1) k_M_against 0 0 38 [some (.ref 95), some (.int x1), some (.int (x2 + (1 : Int32))), some (.int x3)] [] (mk vi vl) post) : wp X (d + 1) k_M_against 0 0 79 [some (.ref 95), some (.int x1), some (.int x2), some (.int x3)] [] (mk vi vl) post :=
  wr_iinc (i := 2) (n := 1) (v := (1 : Int32)) (by decide +kernel) rfl (by decide) (by decide) <|
  wr_goto (off := -44) (t := 38) (by decide +kernel) (by decide) k1
theorem b_M_against_85 {X : aX} {d : Nat} {post : aO} {vi : Nat → Nat → Int32} {vl : Nat → Nat → Int64} {x1 x2 : Int32} {o3 : Option Value} (k1 : post (some (.int (0 : Int32))) (mk vi vl)) : wp X (d + 1) k_M_against 0 0 85 [some (.ref 95), some (.int x1), some (.int x2), o3] [] (mk vi vl) post :=
  wr_iconst (n := 0) (v := (0 : Int32)) (by decide +kernel) (by decide) <|
  wr_ret (r := some (.int (0 : Int32))) (Or.inr (Or.inl ⟨_, rfl, (by decide +kernel), (Or.inl rfl)⟩)) k1
theorem b_M_isSo_0 {X : aX} {d : Nat} {post : aO} {vi : Nat → Nat → Int32} {vl : Nat → Nat → Int64} {x1 : Int32} (k1 : CallOk X d 0 0 k_M_plays [.ref 95] (mk vi vl) (fun r N' => wp X (d + 1) k_M_isSo 0 0 4 [some (.ref 95), some (.int x1), none, none] (pR r []) N' post)) : wp X (d + 1) k_M_isSo 0 0 0 [some (.ref 95), some (.int x1), none, none] [] (mk vi vl) post :=
  wr_aload_n (q := 0) (by decide +kernel) rfl rfl <|
  wr_invV (a := 95) (ci := 4) (mid2 := 144) (idx := 145) (b1 := 0) (b2 := 0) (c1 := 0) (c2 := 0) (as := []) (st := []) pl_144 rfl (Nat.le_of_ble_eq_true rfl) rfl rfl lq_95 sq_95 (by decide) rfl lm_M_145 im_144 is_144 (by decide +kernel) k1
theorem b_M_isSo_4 {X : aX} {d : Nat} {post : aO} {vi : Nat → Nat → Int32} {vl : Nat → Nat → Int64} {x1 : Int32} {o2 o3 : Option Value} (k1 : wp X (d + 1) k_M_isSo 0 0 8 [some (.ref 95), some (.int x1), some (.int (1 : Int32)), some (.int (0 : Int32))] [] (mk vi vl) post) : wp X (d + 1) k_M_isSo 0 0 4 [some (.ref 95), some (.int x1), o2, o3] [] (mk vi vl) post :=
  wr_iconst (n := 1) (v := (1 : Int32)) (by decide +kernel) (by decide) <|
  wr_istore_n (q := 2) (by decide +kernel) rfl (by decide) <|
  wr_iconst (n := 0) (v := (0 : Int32)) (by decide +kernel) (by decide) <|
  wr_istore_n (q := 3) (by decide +kernel) rfl (by decide) <|
  k1
theorem b_M_isSo_8 {X : aX} {d : Nat} {post : aO} {vi : Nat → Nat → Int32} {vl : Nat → Nat → Int64} {x1 x2 x3 : Int32} (k1 : (vi 96 0) ≤ x3 → wp X (d + 1) k_M_isSo 0 0 54 [some (.ref 95), some (.int x1), some (.int x2), some (.int x3)] [] (mk vi vl) post) (k2 : ¬ (vi 96 0) ≤ x3 → wp X (d + 1) k_M_isSo 0 0 18 [some (.ref 95), some (.int x1), some (.int x2), some (.int x3)] [] (mk vi vl) post) : wp X (d + 1) k_M_isSo 0 0 8 [some (.ref 95), some (.int x1), some (.int x2), some (.int x3)] [] (mk vi vl) post :=
  wr_iload_n (q := 3) (by decide +kernel) rfl rfl <|
  wr_aload_n (q := 0) (by decide +kernel) rfl rfl <|
  wr_getR2 (b := 96) (ci := 4) (k0 := 0) (idx := 7) lq_95 sq_95 (by decide) (by decide) lf_M_7 rfl vq_95_0 lq_96 (by decide +kernel) <|
  wr_iconst (n := 0) (v := (0 : Int32)) (by decide +kernel) (by decide) <|
  wr_iald lq_96 sq_96 (by unfold vp_in; decide) (by decide +kernel) <|
  wr_icmp_ge (off := 39) (t := 54) (by decide +kernel) (by decide) k1 k2
theorem b_M_isSo_18 {X : aX} {d : Nat} {post : aO} {vi : Nat → Nat → Int32} {vl : Nat → Nat → Int64} {x1 x2 x3 : Int32} (k1 : x2 = 0 → wp X (d + 1) k_M_isSo 0 0 46 [some (.ref 95), some (.int x1), some (.int x2), some (.int x3)] [] (mk vi vl) post) (k2 : ¬ x2 = 0 → wp X (d + 1) k_M_isSo 0 0 22 [some (.ref 95), some (.int x1), some (.int x2), some (.int x3)] [] (mk vi vl) post) : wp X (d + 1) k_M_isSo 0 0 18 [some (.ref 95), some (.int x1), some (.int x2), some (.int x3)] [] (mk vi vl) post :=
  wr_iload_n (q := 2) (by decide +kernel) rfl rfl <|
  wr_if_eq (off := 27) (t := 46) (by decide +kernel) (by decide) k1 k2
theorem b_M_isSo_22 {X : aX} {d : Nat} {post : aO} {vi : Nat → Nat → Int32} {vl : Nat → Nat → Int64} {x1 x2 x3 : Int32} (q1 : vp_in x3 5) (q2 : vp_in (((40 : Int32) * x1) + x3) 240) (k1 : ¬ (vi 104 x3.toNatClampNeg) = (vi 98 (((40 : Int32) * x1) + x3).toNatClampNeg) → wp X (d + 1) k_M_isSo 0 0 46 [some (.ref 95), some (.int x1), some (.int x2), some (.int x3)] [] (mk vi vl) post) (k2 : (vi 104 x3.toNatClampNeg) = (vi 98 (((40 : Int32) * x1) + x3).toNatClampNeg) → wp X (d + 1) k_M_isSo 0 0 42 [some (.ref 95), some (.int x1), some (.int x2), some (.int x3)] [] (mk vi vl) post) : wp X (d + 1) k_M_isSo 0 0 22 [some (.ref 95), some (.int x1), some (.int x2), some (.int x3)] [] (mk vi vl) post :=
  wr_aload_n (q := 0) (by decide +kernel) rfl rfl <|
  wr_getR2 (b := 104) (ci := 4) (k0 := 14) (idx := 38) lq_95 sq_95 (by decide) (by decide) lf_M_38 rfl vq_95_14 lq_104 (by decide +kernel) <|
  wr_iload_n (q := 3) (by decide +kernel) rfl rfl <|
  wr_iald lq_104 sq_104 q1 (by decide +kernel) <|
  wr_aload_n (q := 0) (by decide +kernel) rfl rfl <|
  wr_getR2 (b := 98) (ci := 4) (k0 := 3) (idx := 16) lq_95 sq_95 (by decide) (by decide) lf_M_16 rfl vq_95_3 lq_98 (by decide +kernel) <|
  wr_bipush (n := 40) (v := (40 : Int32)) (by decide +kernel) (by decide) <|
  wr_iload_n (q := 1) (by decide +kernel) rfl rfl <|
  wr_imul (by decide +kernel) <|
  wr_iload_n (q := 3) (by decide +kernel) rfl rfl <|
  wr_iadd (by decide +kernel) <|
  wr_iald lq_98 sq_98 q2 (by decide +kernel) <|
  wr_icmp_ne (off := 7) (t := 46) (by decide +kernel) (by decide) k1 k2
theorem b_M_isSo_42 {X : aX} {d : Nat} {post : aO} {vi : Nat → Nat → Int32} {vl : Nat → Nat → Int64} {x1 x2 x3 : Int32} (k1 : wp X (d + 1) k_M_isSo 0 0 47 [some (.ref 95), some (.int x1), some (.int x2), some (.int x3)] [.int (1 : Int32)] (mk vi vl) post) : wp X (d + 1) k_M_isSo 0 0 42 [some (.ref 95), some (.int x1), some (.int x2), some (.int x3)] [] (mk vi vl) post :=
  wr_iconst (n := 1) (v := (1 : Int32)) (by decide +kernel) (by decide) <|
  wr_goto (off := 4) (t := 47) (by decide +kernel) (by decide) k1
theorem b_M_isSo_46 {X : aX} {d : Nat} {post : aO} {vi : Nat → Nat → Int32} {vl : Nat → Nat → Int64} {x1 x2 x3 : Int32} (k1 : wp X (d + 1) k_M_isSo 0 0 47 [some (.ref 95), some (.int x1), some (.int x2), some (.int x3)] [.int (0 : Int32)] (mk vi vl) post) : wp X (d + 1) k_M_isSo 0 0 46 [some (.ref 95), some (.int x1), some (.int x2), some (.int x3)] [] (mk vi vl) post :=
  wr_iconst (n := 0) (v := (0 : Int32)) (by decide +kernel) (by decide) <|
  k1
theorem b_M_isSo_47 {X : aX} {d : Nat} {post : aO} {vi : Nat → Nat → Int32} {vl : Nat → Nat → Int64} {x1 x2 x3 y0 : Int32} (k1 : wp X (d + 1) k_M_isSo 0 0 8 [some (.ref 95), some (.int x1), some (.int y0), some (.int (x3 + (1 : Int32)))] [] (mk vi vl) post) : wp X (d + 1) k_M_isSo 0 0 47 [some (.ref 95), some (.int x1), some (.int x2), some (.int x3)] [.int y0] (mk vi vl) post :=
  wr_istore_n (q := 2) (by decide +kernel) rfl (by decide) <|
  wr_iinc (i := 3) (n := 1) (v := (1 : Int32)) (by decide +kernel) rfl (by decide) (by decide) <|
  wr_goto (off := -43) (t := 8) (by decide +kernel) (by decide) k1
theorem b_M_isSo_54 {X : aX} {d : Nat} {post : aO} {vi : Nat → Nat → Int32} {vl : Nat → Nat → Int64} {x1 x2 x3 : Int32} (q1 : x2 = 0 ∨ x2 = 1) (k1 : post (some (.int x2)) (mk vi vl)) : wp X (d + 1) k_M_isSo 0 0 54 [some (.ref 95), some (.int x1), some (.int x2), some (.int x3)] [] (mk vi vl) post :=
  wr_iload_n (q := 2) (by decide +kernel) rfl rfl <|
  wr_ret (r := some (.int x2)) (Or.inr (Or.inl ⟨_, rfl, (by decide +kernel), (Or.inr ⟨rfl, q1⟩)⟩)) k1
