theorem b_M_kinds_0 {X : aX} {d : Nat} {post : aO} {vi : Nat → Nat → Int32} {vl : Nat → Nat → Int64} {x1 x2 : Int32} (k1 : CallOk X d 0 0 k_M_isLaw [.ref 95, .int x1] (mk vi vl) (fun r N' => wp X (d + 1) k_M_kinds 0 0 5 [some (.ref 95), some (.int x1), some (.int x2), none, none, none, none] (pR r []) N' post)) : wp X (d + 1) k_M_kinds 0 0 0 [some (.ref 95), some (.int x1), some (.int x2), none, none, none, none] [] (mk vi vl) post :=
  wr_aload_n (q := 0) (by decide +kernel) rfl rfl <|
  wr_iload_n (q := 1) (by decide +kernel) rfl rfl <|
  wr_invV (a := 95) (ci := 4) (mid2 := 149) (idx := 159) (b1 := 0) (b2 := 0) (c1 := 0) (c2 := 0) (as := [.int x1]) (st := []) pl_149 rfl (Nat.le_of_ble_eq_true rfl) rfl rfl lq_95 sq_95 (by decide) rfl lm_M_159 im_149 is_149 (by decide +kernel) k1
theorem b_M_kinds_5 {X : aX} {d : Nat} {post : aO} {vi : Nat → Nat → Int32} {vl : Nat → Nat → Int64} {x1 x2 y0 : Int32} {o3 o4 o5 o6 : Option Value} (k1 : y0 = 0 → wp X (d + 1) k_M_kinds 0 0 15 [some (.ref 95), some (.int x1), some (.int x2), o3, o4, o5, o6] [] (mk vi vl) post) (k2 : ¬ y0 = 0 → wp X (d + 1) k_M_kinds 0 0 8 [some (.ref 95), some (.int x1), some (.int x2), o3, o4, o5, o6] [] (mk vi vl) post) : wp X (d + 1) k_M_kinds 0 0 5 [some (.ref 95), some (.int x1), some (.int x2), o3, o4, o5, o6] [.int y0] (mk vi vl) post :=
  wr_if_eq (off := 10) (t := 15) (by decide +kernel) (by decide) k1 k2
theorem b_M_kinds_8 {X : aX} {d : Nat} {post : aO} {vi : Nat → Nat → Int32} {vl : Nat → Nat → Int64} {x1 x2 : Int32} {o3 o4 o5 o6 : Option Value} (k1 : CallOk X d 0 0 k_M_isRow [.int x2] (mk vi vl) (fun r N' => wp X (d + 1) k_M_kinds 0 0 12 [some (.ref 95), some (.int x1), some (.int x2), o3, o4, o5, o6] (pR r []) N' post)) : wp X (d + 1) k_M_kinds 0 0 8 [some (.ref 95), some (.int x1), some (.int x2), o3, o4, o5, o6] [] (mk vi vl) post :=
  wr_iload_n (q := 2) (by decide +kernel) rfl rfl <|
  wr_invS (mid2 := 117) (idx := 65) (b1 := 0) (b2 := 0) (c1 := 0) (c2 := 0) (as := [.int x2]) (st := []) pl_117 rfl (Nat.le_of_ble_eq_true rfl) rfl rfl lm_M_65 it_117 (by decide +kernel) k1
theorem b_M_kinds_12 {X : aX} {d : Nat} {post : aO} {vi : Nat → Nat → Int32} {vl : Nat → Nat → Int64} {x1 x2 y0 : Int32} {o3 o4 o5 o6 : Option Value} (k1 : ¬ y0 = 0 → wp X (d + 1) k_M_kinds 0 0 17 [some (.ref 95), some (.int x1), some (.int x2), o3, o4, o5, o6] [] (mk vi vl) post) (k2 : y0 = 0 → wp X (d + 1) k_M_kinds 0 0 15 [some (.ref 95), some (.int x1), some (.int x2), o3, o4, o5, o6] [] (mk vi vl) post) : wp X (d + 1) k_M_kinds 0 0 12 [some (.ref 95), some (.int x1), some (.int x2), o3, o4, o5, o6] [.int y0] (mk vi vl) post :=
  wr_if_ne (off := 5) (t := 17) (by decide +kernel) (by decide) k1 k2
theorem b_M_kinds_15 {X : aX} {d : Nat} {post : aO} {vi : Nat → Nat → Int32} {vl : Nat → Nat → Int64} {x1 x2 : Int32} {o3 o4 o5 o6 : Option Value} (k1 : post (some (.int (-1 : Int32))) (mk vi vl)) : wp X (d + 1) k_M_kinds 0 0 15 [some (.ref 95), some (.int x1), some (.int x2), o3, o4, o5, o6] [] (mk vi vl) post :=
  wr_iconst (n := -1) (v := (-1 : Int32)) (by decide +kernel) (by decide) <|
  wr_ret (r := some (.int (-1 : Int32))) (Or.inr (Or.inl ⟨_, rfl, (by decide +kernel), (Or.inl rfl)⟩)) k1
theorem b_M_kinds_17 {X : aX} {d : Nat} {post : aO} {vi : Nat → Nat → Int32} {vl : Nat → Nat → Int64} {x1 x2 : Int32} {o3 o4 o5 o6 : Option Value} (k1 : CallOk X d 0 0 k_M_against [.ref 95, .int x2] (mk vi vl) (fun r N' => wp X (d + 1) k_M_kinds 0 0 22 [some (.ref 95), some (.int x1), some (.int x2), o3, o4, o5, o6] (pR r []) N' post)) : wp X (d + 1) k_M_kinds 0 0 17 [some (.ref 95), some (.int x1), some (.int x2), o3, o4, o5, o6] [] (mk vi vl) post :=
  wr_aload_n (q := 0) (by decide +kernel) rfl rfl <|
  wr_iload_n (q := 2) (by decide +kernel) rfl rfl <|
  wr_invV (a := 95) (ci := 4) (mid2 := 185) (idx := 217) (b1 := 0) (b2 := 0) (c1 := 0) (c2 := 0) (as := [.int x2]) (st := []) pl_185 rfl (Nat.le_of_ble_eq_true rfl) rfl rfl lq_95 sq_95 (by decide) rfl lm_M_217 im_185 is_185 (by decide +kernel) k1
theorem b_M_kinds_22 {X : aX} {d : Nat} {post : aO} {vi : Nat → Nat → Int32} {vl : Nat → Nat → Int64} {x1 x2 y0 : Int32} {o3 o4 o5 o6 : Option Value} (k1 : 0 ≤ y0 → wp X (d + 1) k_M_kinds 0 0 29 [some (.ref 95), some (.int x1), some (.int x2), some (.int y0), o4, o5, o6] [] (mk vi vl) post) (k2 : ¬ 0 ≤ y0 → wp X (d + 1) k_M_kinds 0 0 27 [some (.ref 95), some (.int x1), some (.int x2), some (.int y0), o4, o5, o6] [] (mk vi vl) post) : wp X (d + 1) k_M_kinds 0 0 22 [some (.ref 95), some (.int x1), some (.int x2), o3, o4, o5, o6] [.int y0] (mk vi vl) post :=
  wr_istore_n (q := 3) (by decide +kernel) rfl (by decide) <|
  wr_iload_n (q := 3) (by decide +kernel) rfl rfl <|
  wr_if_ge (off := 5) (t := 29) (by decide +kernel) (by decide) k1 k2
theorem b_M_kinds_27 {X : aX} {d : Nat} {post : aO} {vi : Nat → Nat → Int32} {vl : Nat → Nat → Int64} {x1 x2 x3 : Int32} {o4 o5 o6 : Option Value} (k1 : post (some (.int x3)) (mk vi vl)) : wp X (d + 1) k_M_kinds 0 0 27 [some (.ref 95), some (.int x1), some (.int x2), some (.int x3), o4, o5, o6] [] (mk vi vl) post :=
  wr_iload_n (q := 3) (by decide +kernel) rfl rfl <|
  wr_ret (r := some (.int x3)) (Or.inr (Or.inl ⟨_, rfl, (by decide +kernel), (Or.inl rfl)⟩)) k1
theorem b_M_kinds_29 {X : aX} {d : Nat} {post : aO} {vi : Nat → Nat → Int32} {vl : Nat → Nat → Int64} {x1 x2 x3 : Int32} {o4 o5 o6 : Option Value} (q1 : vp_in ((12 : Int32) + x1) 5976) (k1 : wp X (d + 1) k_M_kinds 0 0 46 [some (.ref 95), some (.int x1), some (.int x2), some (.int x3), some (.int (vi 96 ((12 : Int32) + x1).toNatClampNeg)), some (.int (0 : Int32)), some (.int (0 : Int32))] [] (mk vi vl) post) : wp X (d + 1) k_M_kinds 0 0 29 [some (.ref 95), some (.int x1), some (.int x2), some (.int x3), o4, o5, o6] [] (mk vi vl) post :=
  wr_aload_n (q := 0) (by decide +kernel) rfl rfl <|
  wr_getR2 (b := 96) (ci := 4) (k0 := 0) (idx := 7) lq_95 sq_95 (by decide) (by decide) lf_M_7 rfl vq_95_0 lq_96 (by decide +kernel) <|
  wr_bipush (n := 12) (v := (12 : Int32)) (by decide +kernel) (by decide) <|
  wr_iload_n (q := 1) (by decide +kernel) rfl rfl <|
  wr_iadd (by decide +kernel) <|
  wr_iald lq_96 sq_96 q1 (by decide +kernel) <|
  wr_istore (i := 4) (by decide +kernel) (by decide) <|
  wr_iconst (n := 0) (v := (0 : Int32)) (by decide +kernel) (by decide) <|
  wr_istore (i := 5) (by decide +kernel) (by decide) <|
  wr_iconst (n := 0) (v := (0 : Int32)) (by decide +kernel) (by decide) <|
  wr_istore (i := 6) (by decide +kernel) (by decide) <|
  k1
theorem b_M_kinds_46 {X : aX} {d : Nat} {post : aO} {vi : Nat → Nat → Int32} {vl : Nat → Nat → Int64} {x1 x2 x3 x4 x5 x6 : Int32} (k1 : (6 : Int32) ≤ x6 → wp X (d + 1) k_M_kinds 0 0 91 [some (.ref 95), some (.int x1), some (.int x2), some (.int x3), some (.int x4), some (.int x5), some (.int x6)] [] (mk vi vl) post) (k2 : ¬ (6 : Int32) ≤ x6 → wp X (d + 1) k_M_kinds 0 0 53 [some (.ref 95), some (.int x1), some (.int x2), some (.int x3), some (.int x4), some (.int x5), some (.int x6)] [] (mk vi vl) post) : wp X (d + 1) k_M_kinds 0 0 46 [some (.ref 95), some (.int x1), some (.int x2), some (.int x3), some (.int x4), some (.int x5), some (.int x6)] [] (mk vi vl) post :=
  wr_iload (i := 6) (by decide +kernel) rfl <|
  wr_bipush (n := 6) (v := (6 : Int32)) (by decide +kernel) (by decide) <|
  wr_icmp_ge (off := 41) (t := 91) (by decide +kernel) (by decide) k1 k2
theorem b_M_kinds_53 {X : aX} {d : Nat} {post : aO} {vi : Nat → Nat → Int32} {vl : Nat → Nat → Int64} {x1 x2 x3 x4 x5 x6 : Int32} (q1 : vp_in ((12 : Int32) + x1) 5976) (k1 : ∀ w, w = up2 vi 96 ((12 : Int32) + x1).toNatClampNeg x6 → wp X (d + 1) k_M_kinds 0 0 64 [some (.ref 95), some (.int x1), some (.int x2), some (.int x3), some (.int x4), some (.int x5), some (.int x6)] [] (mk w vl) post) : wp X (d + 1) k_M_kinds 0 0 53 [some (.ref 95), some (.int x1), some (.int x2), some (.int x3), some (.int x4), some (.int x5), some (.int x6)] [] (mk vi vl) post :=
  wr_aload_n (q := 0) (by decide +kernel) rfl rfl <|
  wr_getR2 (b := 96) (ci := 4) (k0 := 0) (idx := 7) lq_95 sq_95 (by decide) (by decide) lf_M_7 rfl vq_95_0 lq_96 (by decide +kernel) <|
  wr_bipush (n := 12) (v := (12 : Int32)) (by decide +kernel) (by decide) <|
  wr_iload_n (q := 1) (by decide +kernel) rfl rfl <|
  wr_iadd (by decide +kernel) <|
  wr_iload (i := 6) (by decide +kernel) rfl <|
  wr_iast lq_96 sq_96 q1 (by decide +kernel) <|
  k1 _ rfl
theorem b_M_kinds_64 {X : aX} {d : Nat} {post : aO} {vi : Nat → Nat → Int32} {vl : Nat → Nat → Int64} {x1 x2 x3 x4 x5 x6 : Int32} (k1 : CallOk X d 0 0 k_M_isSo [.ref 95, .int x2] (mk vi vl) (fun r N' => wp X (d + 1) k_M_kinds 0 0 71 [some (.ref 95), some (.int x1), some (.int x2), some (.int x3), some (.int x4), some (.int x5), some (.int x6)] (pR r [.int x5]) N' post)) : wp X (d + 1) k_M_kinds 0 0 64 [some (.ref 95), some (.int x1), some (.int x2), some (.int x3), some (.int x4), some (.int x5), some (.int x6)] [] (mk vi vl) post :=
  wr_iload (i := 5) (by decide +kernel) rfl <|
  wr_aload_n (q := 0) (by decide +kernel) rfl rfl <|
  wr_iload_n (q := 2) (by decide +kernel) rfl rfl <|
  wr_invV (a := 95) (ci := 4) (mid2 := 186) (idx := 220) (b1 := 0) (b2 := 0) (c1 := 0) (c2 := 0) (as := [.int x2]) (st := [.int x5]) pl_186 rfl (Nat.le_of_ble_eq_true rfl) rfl rfl lq_95 sq_95 (by decide) rfl lm_M_220 im_186 is_186 (by decide +kernel) k1
theorem b_M_kinds_71 {X : aX} {d : Nat} {post : aO} {vi : Nat → Nat → Int32} {vl : Nat → Nat → Int64} {x1 x2 x3 x4 x5 x6 y0 y1 : Int32} (k1 : y1 = 0 → wp X (d + 1) k_M_kinds 0 0 81 [some (.ref 95), some (.int x1), some (.int x2), some (.int x3), some (.int x4), some (.int x5), some (.int x6)] [.int y0] (mk vi vl) post) (k2 : ¬ y1 = 0 → wp X (d + 1) k_M_kinds 0 0 74 [some (.ref 95), some (.int x1), some (.int x2), some (.int x3), some (.int x4), some (.int x5), some (.int x6)] [.int y0] (mk vi vl) post) : wp X (d + 1) k_M_kinds 0 0 71 [some (.ref 95), some (.int x1), some (.int x2), some (.int x3), some (.int x4), some (.int x5), some (.int x6)] [.int y1, .int y0] (mk vi vl) post :=
  wr_if_eq (off := 10) (t := 81) (by decide +kernel) (by decide) k1 k2
theorem b_M_kinds_74 {X : aX} {d : Nat} {post : aO} {vi : Nat → Nat → Int32} {vl : Nat → Nat → Int64} {x1 x2 x3 x4 x5 x6 y0 : Int32} (k1 : wp X (d + 1) k_M_kinds 0 0 82 [some (.ref 95), some (.int x1), some (.int x2), some (.int x3), some (.int x4), some (.int x5), some (.int x6)] [.int ((1 : Int32) <<< (x6 &&& 31)), .int y0] (mk vi vl) post) : wp X (d + 1) k_M_kinds 0 0 74 [some (.ref 95), some (.int x1), some (.int x2), some (.int x3), some (.int x4), some (.int x5), some (.int x6)] [.int y0] (mk vi vl) post :=
  wr_iconst (n := 1) (v := (1 : Int32)) (by decide +kernel) (by decide) <|
  wr_iload (i := 6) (by decide +kernel) rfl <|
  wr_ishl (by decide +kernel) <|
  wr_goto (off := 4) (t := 82) (by decide +kernel) (by decide) k1
theorem b_M_kinds_81 {X : aX} {d : Nat} {post : aO} {vi : Nat → Nat → Int32} {vl : Nat → Nat → Int64} {x1 x2 x3 x4 x5 x6 y0 : Int32} (k1 : wp X (d + 1) k_M_kinds 0 0 82 [some (.ref 95), some (.int x1), some (.int x2), some (.int x3), some (.int x4), some (.int x5), some (.int x6)] [.int (0 : Int32), .int y0] (mk vi vl) post) : wp X (d + 1) k_M_kinds 0 0 81 [some (.ref 95), some (.int x1), some (.int x2), some (.int x3), some (.int x4), some (.int x5), some (.int x6)] [.int y0] (mk vi vl) post :=
  wr_iconst (n := 0) (v := (0 : Int32)) (by decide +kernel) (by decide) <|
  k1
theorem b_M_kinds_82 {X : aX} {d : Nat} {post : aO} {vi : Nat → Nat → Int32} {vl : Nat → Nat → Int64} {x1 x2 x3 x4 x5 x6 y0 y1 : Int32} (k1 : wp X (d + 1) k_M_kinds 0 0 46 [some (.ref 95), some (.int x1), some (.int x2), some (.int x3), some (.int x4), some (.int (y0 ||| y1)), some (.int (x6 + (1 : Int32)))] [] (mk vi vl) post) : wp X (d + 1) k_M_kinds 0 0 82 [some (.ref 95), some (.int x1), some (.int x2), some (.int x3), some (.int x4), some (.int x5), some (.int x6)] [.int y1, .int y0] (mk vi vl) post :=
  wr_ior (by decide +kernel) <|
  wr_istore (i := 5) (by decide +kernel) (by decide) <|
  wr_iinc (i := 6) (n := 1) (v := (1 : Int32)) (by decide +kernel) rfl (by decide) (by decide) <|
  wr_goto (off := -42) (t := 46) (by decide +kernel) (by decide) k1
theorem b_M_kinds_91 {X : aX} {d : Nat} {post : aO} {vi : Nat → Nat → Int32} {vl : Nat → Nat → Int64} {x1 x2 x3 x4 x5 x6 : Int32} (q1 : vp_in ((12 : Int32) + x1) 5976) (k1 : ∀ w, w = up2 vi 96 ((12 : Int32) + x1).toNatClampNeg x4 → wp X (d + 1) k_M_kinds 0 0 102 [some (.ref 95), some (.int x1), some (.int x2), some (.int x3), some (.int x4), some (.int x5), some (.int x6)] [] (mk w vl) post) : wp X (d + 1) k_M_kinds 0 0 91 [some (.ref 95), some (.int x1), some (.int x2), some (.int x3), some (.int x4), some (.int x5), some (.int x6)] [] (mk vi vl) post :=
  wr_aload_n (q := 0) (by decide +kernel) rfl rfl <|
  wr_getR2 (b := 96) (ci := 4) (k0 := 0) (idx := 7) lq_95 sq_95 (by decide) (by decide) lf_M_7 rfl vq_95_0 lq_96 (by decide +kernel) <|
  wr_bipush (n := 12) (v := (12 : Int32)) (by decide +kernel) (by decide) <|
  wr_iload_n (q := 1) (by decide +kernel) rfl rfl <|
  wr_iadd (by decide +kernel) <|
  wr_iload (i := 4) (by decide +kernel) rfl <|
  wr_iast lq_96 sq_96 q1 (by decide +kernel) <|
  k1 _ rfl
theorem b_M_kinds_102 {X : aX} {d : Nat} {post : aO} {vi : Nat → Nat → Int32} {vl : Nat → Nat → Int64} {x1 x2 x3 x4 x5 x6 : Int32} (k1 : post (some (.int x5)) (mk vi vl)) : wp X (d + 1) k_M_kinds 0 0 102 [some (.ref 95), some (.int x1), some (.int x2), some (.int x3), some (.int x4), some (.int x5), some (.int x6)] [] (mk vi vl) post :=
  wr_iload (i := 5) (by decide +kernel) rfl <|
  wr_ret (r := some (.int x5)) (Or.inr (Or.inl ⟨_, rfl, (by decide +kernel), (Or.inl rfl)⟩)) k1
theorem b_M_needed_0 {X : aX} {d : Nat} {post : aO} {vi : Nat → Nat → Int32} {vl : Nat → Nat → Int64}  (k1 : CallOk X d 0 0 k_M_plays [.ref 95] (mk vi vl) (fun r N' => wp X (d + 1) k_M_needed 0 0 4 [some (.ref 95), none, none, none] (pR r []) N' post)) : wp X (d + 1) k_M_needed 0 0 0 [some (.ref 95), none, none, none] [] (mk vi vl) post :=
  wr_aload_n (q := 0) (by decide +kernel) rfl rfl <|
  wr_invV (a := 95) (ci := 4) (mid2 := 144) (idx := 145) (b1 := 0) (b2 := 0) (c1 := 0) (c2 := 0) (as := []) (st := []) pl_144 rfl (Nat.le_of_ble_eq_true rfl) rfl rfl lq_95 sq_95 (by decide) rfl lm_M_145 im_144 is_144 (by decide +kernel) k1
theorem b_M_needed_4 {X : aX} {d : Nat} {post : aO} {vi : Nat → Nat → Int32} {vl : Nat → Nat → Int64} {o1 o2 o3 : Option Value} (k1 : wp X (d + 1) k_M_needed 0 0 8 [some (.ref 95), some (.int (0 : Int32)), some (.int (0 : Int32)), o3] [] (mk vi vl) post) : wp X (d + 1) k_M_needed 0 0 4 [some (.ref 95), o1, o2, o3] [] (mk vi vl) post :=
  wr_iconst (n := 0) (v := (0 : Int32)) (by decide +kernel) (by decide) <|
  wr_istore_n (q := 1) (by decide +kernel) rfl (by decide) <|
  wr_iconst (n := 0) (v := (0 : Int32)) (by decide +kernel) (by decide) <|
  wr_istore_n (q := 2) (by decide +kernel) rfl (by decide) <|
  k1
theorem b_M_needed_8 {X : aX} {d : Nat} {post : aO} {vi : Nat → Nat → Int32} {vl : Nat → Nat → Int64} {x1 x2 : Int32} {o3 : Option Value} (k1 : (vi 96 0) ≤ x2 → wp X (d + 1) k_M_needed 0 0 36 [some (.ref 95), some (.int x1), some (.int x2), o3] [] (mk vi vl) post) (k2 : ¬ (vi 96 0) ≤ x2 → wp X (d + 1) k_M_needed 0 0 18 [some (.ref 95), some (.int x1), some (.int x2), o3] [] (mk vi vl) post) : wp X (d + 1) k_M_needed 0 0 8 [some (.ref 95), some (.int x1), some (.int x2), o3] [] (mk vi vl) post :=
  wr_iload_n (q := 2) (by decide +kernel) rfl rfl <|
  wr_aload_n (q := 0) (by decide +kernel) rfl rfl <|
  wr_getR2 (b := 96) (ci := 4) (k0 := 0) (idx := 7) lq_95 sq_95 (by decide) (by decide) lf_M_7 rfl vq_95_0 lq_96 (by decide +kernel) <|
  wr_iconst (n := 0) (v := (0 : Int32)) (by decide +kernel) (by decide) <|
  wr_iald lq_96 sq_96 (by unfold vp_in; decide) (by decide +kernel) <|
  wr_icmp_ge (off := 21) (t := 36) (by decide +kernel) (by decide) k1 k2
theorem b_M_needed_18 {X : aX} {d : Nat} {post : aO} {vi : Nat → Nat → Int32} {vl : Nat → Nat → Int64} {x1 x2 : Int32} {o3 : Option Value} (q1 : vp_in x2 5) (q2 : vp_in x2 40) (k1 : ∀ w, w = up2 vi 102 x2.toNatClampNeg (vi 104 x2.toNatClampNeg) → wp X (d + 1) k_M_needed 0 0 30 [some (.ref 95), some (.int x1), some (.int x2), o3] [] (mk w vl) post) : wp X (d + 1) k_M_needed 0 0 18 [some (.ref 95), some (.int x1), some (.int x2), o3] [] (mk vi vl) post :=
  wr_aload_n (q := 0) (by decide +kernel) rfl rfl <|
  wr_getR2 (b := 102) (ci := 4) (k0 := 7) (idx := 28) lq_95 sq_95 (by decide) (by decide) lf_M_28 rfl vq_95_7 lq_102 (by decide +kernel) <|
  wr_iload_n (q := 2) (by decide +kernel) rfl rfl <|
  wr_aload_n (q := 0) (by decide +kernel) rfl rfl <|
  wr_getR2 (b := 104) (ci := 4) (k0 := 14) (idx := 38) lq_95 sq_95 (by decide) (by decide) lf_M_38 rfl vq_95_14 lq_104 (by decide +kernel) <|
  wr_iload_n (q := 2) (by decide +kernel) rfl rfl <|
  wr_iald lq_104 sq_104 q1 (by decide +kernel) <|
  wr_iast lq_102 sq_102 q2 (by decide +kernel) <|
  k1 _ rfl
theorem b_M_needed_30 {X : aX} {d : Nat} {post : aO} {vi : Nat → Nat → Int32} {vl : Nat → Nat → Int64} {x1 x2 : Int32} {o3 : Option Value} (k1 : wp X (d + 1) k_M_needed 0 0 8 [some (.ref 95), some (.int x1), some (.int (x2 + (1 : Int32))), o3] [] (mk vi vl) post) : wp X (d + 1) k_M_needed 0 0 30 [some (.ref 95), some (.int x1), some (.int x2), o3] [] (mk vi vl) post :=
  wr_iinc (i := 2) (n := 1) (v := (1 : Int32)) (by decide +kernel) rfl (by decide) (by decide) <|
  wr_goto (off := -25) (t := 8) (by decide +kernel) (by decide) k1
theorem b_M_needed_36 {X : aX} {d : Nat} {post : aO} {vi : Nat → Nat → Int32} {vl : Nat → Nat → Int64} {x1 x2 : Int32} {o3 : Option Value} (k1 : wp X (d + 1) k_M_needed 0 0 38 [some (.ref 95), some (.int x1), some (.int (0 : Int32)), o3] [] (mk vi vl) post) : wp X (d + 1) k_M_needed 0 0 36 [some (.ref 95), some (.int x1), some (.int x2), o3] [] (mk vi vl) post :=
  wr_iconst (n := 0) (v := (0 : Int32)) (by decide +kernel) (by decide) <|
  wr_istore_n (q := 2) (by decide +kernel) rfl (by decide) <|
  k1
theorem b_M_needed_38 {X : aX} {d : Nat} {post : aO} {vi : Nat → Nat → Int32} {vl : Nat → Nat → Int64} {x1 x2 : Int32} {o3 : Option Value} (k1 : (vi 96 1) ≤ x2 → wp X (d + 1) k_M_needed 0 0 106 [some (.ref 95), some (.int x1), some (.int x2), o3] [] (mk vi vl) post) (k2 : ¬ (vi 96 1) ≤ x2 → wp X (d + 1) k_M_needed 0 0 48 [some (.ref 95), some (.int x1), some (.int x2), o3] [] (mk vi vl) post) : wp X (d + 1) k_M_needed 0 0 38 [some (.ref 95), some (.int x1), some (.int x2), o3] [] (mk vi vl) post :=
  wr_iload_n (q := 2) (by decide +kernel) rfl rfl <|
  wr_aload_n (q := 0) (by decide +kernel) rfl rfl <|
  wr_getR2 (b := 96) (ci := 4) (k0 := 0) (idx := 7) lq_95 sq_95 (by decide) (by decide) lf_M_7 rfl vq_95_0 lq_96 (by decide +kernel) <|
  wr_iconst (n := 1) (v := (1 : Int32)) (by decide +kernel) (by decide) <|
  wr_iald lq_96 sq_96 (by unfold vp_in; decide) (by decide +kernel) <|
  wr_icmp_ge (off := 61) (t := 106) (by decide +kernel) (by decide) k1 k2
theorem b_M_needed_48 {X : aX} {d : Nat} {post : aO} {vi : Nat → Nat → Int32} {vl : Nat → Nat → Int64} {x1 x2 : Int32} {o3 : Option Value} (k1 : ∀ w, w = up2 vi 95 16 x2 → wp X (d + 1) k_M_needed 0 0 53 [some (.ref 95), some (.int x1), some (.int x2), o3] [] (mk w vl) post) : wp X (d + 1) k_M_needed 0 0 48 [some (.ref 95), some (.int x1), some (.int x2), o3] [] (mk vi vl) post :=
  wr_aload_n (q := 0) (by decide +kernel) rfl rfl <|
  wr_iload_n (q := 2) (by decide +kernel) rfl rfl <|
  wr_putI (ci := 4) (k0 := 16) (idx := 44) lq_95 sq_95 (by decide) (by decide) lf_M_44 rfl (by decide +kernel) <|
  k1 _ rfl
theorem b_M_needed_53 {X : aX} {d : Nat} {post : aO} {vi : Nat → Nat → Int32} {vl : Nat → Nat → Int64} {x1 x2 : Int32} {o3 : Option Value} (k1 : CallOk X d 0 0 k_M_plays [.ref 95] (mk vi vl) (fun r N' => wp X (d + 1) k_M_needed 0 0 57 [some (.ref 95), some (.int x1), some (.int x2), o3] (pR r []) N' post)) : wp X (d + 1) k_M_needed 0 0 53 [some (.ref 95), some (.int x1), some (.int x2), o3] [] (mk vi vl) post :=
  wr_aload_n (q := 0) (by decide +kernel) rfl rfl <|
  wr_invV (a := 95) (ci := 4) (mid2 := 144) (idx := 145) (b1 := 0) (b2 := 0) (c1 := 0) (c2 := 0) (as := []) (st := []) pl_144 rfl (Nat.le_of_ble_eq_true rfl) rfl rfl lq_95 sq_95 (by decide) rfl lm_M_145 im_144 is_144 (by decide +kernel) k1
theorem b_M_needed_57 {X : aX} {d : Nat} {post : aO} {vi : Nat → Nat → Int32} {vl : Nat → Nat → Int64} {x1 x2 : Int32} {o3 : Option Value} (k1 : wp X (d + 1) k_M_needed 0 0 59 [some (.ref 95), some (.int x1), some (.int x2), some (.int (0 : Int32))] [] (mk vi vl) post) : wp X (d + 1) k_M_needed 0 0 57 [some (.ref 95), some (.int x1), some (.int x2), o3] [] (mk vi vl) post :=
  wr_iconst (n := 0) (v := (0 : Int32)) (by decide +kernel) (by decide) <|
  wr_istore_n (q := 3) (by decide +kernel) rfl (by decide) <|
  k1
theorem b_M_needed_59 {X : aX} {d : Nat} {post : aO} {vi : Nat → Nat → Int32} {vl : Nat → Nat → Int64} {x1 x2 x3 : Int32} (k1 : (vi 96 0) ≤ x3 → wp X (d + 1) k_M_needed 0 0 100 [some (.ref 95), some (.int x1), some (.int x2), some (.int x3)] [] (mk vi vl) post) (k2 : ¬ (vi 96 0) ≤ x3 → wp X (d + 1) k_M_needed 0 0 69 [some (.ref 95), some (.int x1), some (.int x2), some (.int x3)] [] (mk vi vl) post) : wp X (d + 1) k_M_needed 0 0 59 [some (.ref 95), some (.int x1), some (.int x2), some (.int x3)] [] (mk vi vl) post :=
  wr_iload_n (q := 3) (by decide +kernel) rfl rfl <|
  wr_aload_n (q := 0) (by decide +kernel) rfl rfl <|
  wr_getR2 (b := 96) (ci := 4) (k0 := 0) (idx := 7) lq_95 sq_95 (by decide) (by decide) lf_M_7 rfl vq_95_0 lq_96 (by decide +kernel) <|
  wr_iconst (n := 0) (v := (0 : Int32)) (by decide +kernel) (by decide) <|
  wr_iald lq_96 sq_96 (by unfold vp_in; decide) (by decide +kernel) <|
  wr_icmp_ge (off := 34) (t := 100) (by decide +kernel) (by decide) k1 k2
theorem b_M_needed_69 {X : aX} {d : Nat} {post : aO} {vi : Nat → Nat → Int32} {vl : Nat → Nat → Int64} {x1 x2 x3 : Int32} (q1 : vp_in x3 5) (q2 : vp_in x3 40) (k1 : ¬ (vi 104 x3.toNatClampNeg) = (vi 102 x3.toNatClampNeg) → wp X (d + 1) k_M_needed 0 0 89 [some (.ref 95), some (.int x1), some (.int x2), some (.int x3)] [.int x1] (mk vi vl) post) (k2 : (vi 104 x3.toNatClampNeg) = (vi 102 x3.toNatClampNeg) → wp X (d + 1) k_M_needed 0 0 85 [some (.ref 95), some (.int x1), some (.int x2), some (.int x3)] [.int x1] (mk vi vl) post) : wp X (d + 1) k_M_needed 0 0 69 [some (.ref 95), some (.int x1), some (.int x2), some (.int x3)] [] (mk vi vl) post :=
  wr_iload_n (q := 1) (by decide +kernel) rfl rfl <|
  wr_aload_n (q := 0) (by decide +kernel) rfl rfl <|
  wr_getR2 (b := 104) (ci := 4) (k0 := 14) (idx := 38) lq_95 sq_95 (by decide) (by decide) lf_M_38 rfl vq_95_14 lq_104 (by decide +kernel) <|
  wr_iload_n (q := 3) (by decide +kernel) rfl rfl <|
  wr_iald lq_104 sq_104 q1 (by decide +kernel) <|
  wr_aload_n (q := 0) (by decide +kernel) rfl rfl <|
  wr_getR2 (b := 102) (ci := 4) (k0 := 7) (idx := 28) lq_95 sq_95 (by decide) (by decide) lf_M_28 rfl vq_95_7 lq_102 (by decide +kernel) <|
  wr_iload_n (q := 3) (by decide +kernel) rfl rfl <|
  wr_iald lq_102 sq_102 q2 (by decide +kernel) <|
  wr_icmp_ne (off := 7) (t := 89) (by decide +kernel) (by decide) k1 k2
theorem b_M_needed_85 {X : aX} {d : Nat} {post : aO} {vi : Nat → Nat → Int32} {vl : Nat → Nat → Int64} {x1 x2 x3 y0 : Int32} (k1 : wp X (d + 1) k_M_needed 0 0 92 [some (.ref 95), some (.int x1), some (.int x2), some (.int x3)] [.int (0 : Int32), .int y0] (mk vi vl) post) : wp X (d + 1) k_M_needed 0 0 85 [some (.ref 95), some (.int x1), some (.int x2), some (.int x3)] [.int y0] (mk vi vl) post :=
  wr_iconst (n := 0) (v := (0 : Int32)) (by decide +kernel) (by decide) <|
  wr_goto (off := 6) (t := 92) (by decide +kernel) (by decide) k1
theorem b_M_needed_89 {X : aX} {d : Nat} {post : aO} {vi : Nat → Nat → Int32} {vl : Nat → Nat → Int64} {x1 x2 x3 y0 : Int32} (k1 : wp X (d + 1) k_M_needed 0 0 92 [some (.ref 95), some (.int x1), some (.int x2), some (.int x3)] [.int ((1 : Int32) <<< (x2 &&& 31)), .int y0] (mk vi vl) post) : wp X (d + 1) k_M_needed 0 0 89 [some (.ref 95), some (.int x1), some (.int x2), some (.int x3)] [.int y0] (mk vi vl) post :=
  wr_iconst (n := 1) (v := (1 : Int32)) (by decide +kernel) (by decide) <|
  wr_iload_n (q := 2) (by decide +kernel) rfl rfl <|
  wr_ishl (by decide +kernel) <|
  k1
theorem b_M_needed_92 {X : aX} {d : Nat} {post : aO} {vi : Nat → Nat → Int32} {vl : Nat → Nat → Int64} {x1 x2 x3 y0 y1 : Int32} (k1 : wp X (d + 1) k_M_needed 0 0 59 [some (.ref 95), some (.int (y0 ||| y1)), some (.int x2), some (.int (x3 + (1 : Int32)))] [] (mk vi vl) post) : wp X (d + 1) k_M_needed 0 0 92 [some (.ref 95), some (.int x1), some (.int x2), some (.int x3)] [.int y1, .int y0] (mk vi vl) post :=
  wr_ior (by decide +kernel) <|
  wr_istore_n (q := 1) (by decide +kernel) rfl (by decide) <|
  wr_iinc (i := 3) (n := 1) (v := (1 : Int32)) (by decide +kernel) rfl (by decide) (by decide) <|
  wr_goto (off := -38) (t := 59) (by decide +kernel) (by decide) k1
theorem b_M_needed_100 {X : aX} {d : Nat} {post : aO} {vi : Nat → Nat → Int32} {vl : Nat → Nat → Int64} {x1 x2 x3 : Int32} (k1 : wp X (d + 1) k_M_needed 0 0 38 [some (.ref 95), some (.int x1), some (.int (x2 + (1 : Int32))), some (.int x3)] [] (mk vi vl) post) : wp X (d + 1) k_M_needed 0 0 100 [some (.ref 95), some (.int x1), some (.int x2), some (.int x3)] [] (mk vi vl) post :=
  wr_iinc (i := 2) (n := 1) (v := (1 : Int32)) (by decide +kernel) rfl (by decide) (by decide) <|
  wr_goto (off := -65) (t := 38) (by decide +kernel) (by decide) k1
theorem b_M_needed_106 {X : aX} {d : Nat} {post : aO} {vi : Nat → Nat → Int32} {vl : Nat → Nat → Int64} {x1 x2 : Int32} {o3 : Option Value} (k1 : ∀ w, w = up2 vi 95 16 (-9 : Int32) → wp X (d + 1) k_M_needed 0 0 112 [some (.ref 95), some (.int x1), some (.int x2), o3] [] (mk w vl) post) : wp X (d + 1) k_M_needed 0 0 106 [some (.ref 95), some (.int x1), some (.int x2), o3] [] (mk vi vl) post :=
  wr_aload_n (q := 0) (by decide +kernel) rfl rfl <|
  wr_bipush (n := -9) (v := (-9 : Int32)) (by decide +kernel) (by decide) <|
  wr_putI (ci := 4) (k0 := 16) (idx := 44) lq_95 sq_95 (by decide) (by decide) lf_M_44 rfl (by decide +kernel) <|
  k1 _ rfl
theorem b_M_needed_112 {X : aX} {d : Nat} {post : aO} {vi : Nat → Nat → Int32} {vl : Nat → Nat → Int64} {x1 x2 : Int32} {o3 : Option Value} (k1 : post (some (.int x1)) (mk vi vl)) : wp X (d + 1) k_M_needed 0 0 112 [some (.ref 95), some (.int x1), some (.int x2), o3] [] (mk vi vl) post :=
  wr_iload_n (q := 1) (by decide +kernel) rfl rfl <|
  wr_ret (r := some (.int x1)) (Or.inr (Or.inl ⟨_, rfl, (by decide +kernel), (Or.inl rfl)⟩)) k1
theorem b_M_forged_0 {X : aX} {d : Nat} {post : aO} {vi : Nat → Nat → Int32} {vl : Nat → Nat → Int64} {x1 : Int32} (k1 : CallOk X d 0 0 k_M_isRow [.int x1] (mk vi vl) (fun r N' => wp X (d + 1) k_M_forged 0 0 4 [some (.ref 95), some (.int x1), none, none, none, none, none, none, none] (pR r []) N' post)) : wp X (d + 1) k_M_forged 0 0 0 [some (.ref 95), some (.int x1), none, none, none, none, none, none, none] [] (mk vi vl) post :=
  wr_iload_n (q := 1) (by decide +kernel) rfl rfl <|
  wr_invS (mid2 := 117) (idx := 65) (b1 := 0) (b2 := 0) (c1 := 0) (c2 := 0) (as := [.int x1]) (st := []) pl_117 rfl (Nat.le_of_ble_eq_true rfl) rfl rfl lm_M_65 it_117 (by decide +kernel) k1
theorem b_M_forged_4 {X : aX} {d : Nat} {post : aO} {vi : Nat → Nat → Int32} {vl : Nat → Nat → Int64} {x1 y0 : Int32} {o2 o3 o4 o5 o6 o7 o8 : Option Value} (k1 : ¬ y0 = 0 → wp X (d + 1) k_M_forged 0 0 9 [some (.ref 95), some (.int x1), o2, o3, o4, o5, o6, o7, o8] [] (mk vi vl) post) (k2 : y0 = 0 → wp X (d + 1) k_M_forged 0 0 7 [some (.ref 95), some (.int x1), o2, o3, o4, o5, o6, o7, o8] [] (mk vi vl) post) : wp X (d + 1) k_M_forged 0 0 4 [some (.ref 95), some (.int x1), o2, o3, o4, o5, o6, o7, o8] [.int y0] (mk vi vl) post :=
  wr_if_ne (off := 5) (t := 9) (by decide +kernel) (by decide) k1 k2
theorem b_M_forged_7 {X : aX} {d : Nat} {post : aO} {vi : Nat → Nat → Int32} {vl : Nat → Nat → Int64} {x1 : Int32} {o2 o3 o4 o5 o6 o7 o8 : Option Value} (k1 : post (some (.int (-1 : Int32))) (mk vi vl)) : wp X (d + 1) k_M_forged 0 0 7 [some (.ref 95), some (.int x1), o2, o3, o4, o5, o6, o7, o8] [] (mk vi vl) post :=
  wr_iconst (n := -1) (v := (-1 : Int32)) (by decide +kernel) (by decide) <|
  wr_ret (r := some (.int (-1 : Int32))) (Or.inr (Or.inl ⟨_, rfl, (by decide +kernel), (Or.inl rfl)⟩)) k1
theorem b_M_forged_9 {X : aX} {d : Nat} {post : aO} {vi : Nat → Nat → Int32} {vl : Nat → Nat → Int64} {x1 : Int32} {o2 o3 o4 o5 o6 o7 o8 : Option Value} (k1 : ¬ (vi 96 0) = 0 → wp X (d + 1) k_M_forged 0 0 21 [some (.ref 95), some (.int x1), o2, o3, o4, o5, o6, o7, o8] [] (mk vi vl) post) (k2 : (vi 96 0) = 0 → wp X (d + 1) k_M_forged 0 0 18 [some (.ref 95), some (.int x1), o2, o3, o4, o5, o6, o7, o8] [] (mk vi vl) post) : wp X (d + 1) k_M_forged 0 0 9 [some (.ref 95), some (.int x1), o2, o3, o4, o5, o6, o7, o8] [] (mk vi vl) post :=
  wr_aload_n (q := 0) (by decide +kernel) rfl rfl <|
  wr_getR2 (b := 96) (ci := 4) (k0 := 0) (idx := 7) lq_95 sq_95 (by decide) (by decide) lf_M_7 rfl vq_95_0 lq_96 (by decide +kernel) <|
  wr_iconst (n := 0) (v := (0 : Int32)) (by decide +kernel) (by decide) <|
  wr_iald lq_96 sq_96 (by unfold vp_in; decide) (by decide +kernel) <|
  wr_if_ne (off := 6) (t := 21) (by decide +kernel) (by decide) k1 k2
theorem b_M_forged_18 {X : aX} {d : Nat} {post : aO} {vi : Nat → Nat → Int32} {vl : Nat → Nat → Int64} {x1 : Int32} {o2 o3 o4 o5 o6 o7 o8 : Option Value} (k1 : post (some (.int (-4 : Int32))) (mk vi vl)) : wp X (d + 1) k_M_forged 0 0 18 [some (.ref 95), some (.int x1), o2, o3, o4, o5, o6, o7, o8] [] (mk vi vl) post :=
  wr_bipush (n := -4) (v := (-4 : Int32)) (by decide +kernel) (by decide) <|
  wr_ret (r := some (.int (-4 : Int32))) (Or.inr (Or.inl ⟨_, rfl, (by decide +kernel), (Or.inl rfl)⟩)) k1
theorem b_M_forged_21 {X : aX} {d : Nat} {post : aO} {vi : Nat → Nat → Int32} {vl : Nat → Nat → Int64} {x1 : Int32} {o2 o3 o4 o5 o6 o7 o8 : Option Value} (k1 : CallOk X d 0 0 k_M_against [.ref 95, .int x1] (mk vi vl) (fun r N' => wp X (d + 1) k_M_forged 0 0 26 [some (.ref 95), some (.int x1), o2, o3, o4, o5, o6, o7, o8] (pR r []) N' post)) : wp X (d + 1) k_M_forged 0 0 21 [some (.ref 95), some (.int x1), o2, o3, o4, o5, o6, o7, o8] [] (mk vi vl) post :=
  wr_aload_n (q := 0) (by decide +kernel) rfl rfl <|
  wr_iload_n (q := 1) (by decide +kernel) rfl rfl <|
  wr_invV (a := 95) (ci := 4) (mid2 := 185) (idx := 217) (b1 := 0) (b2 := 0) (c1 := 0) (c2 := 0) (as := [.int x1]) (st := []) pl_185 rfl (Nat.le_of_ble_eq_true rfl) rfl rfl lq_95 sq_95 (by decide) rfl lm_M_217 im_185 is_185 (by decide +kernel) k1
theorem b_M_forged_26 {X : aX} {d : Nat} {post : aO} {vi : Nat → Nat → Int32} {vl : Nat → Nat → Int64} {x1 y0 : Int32} {o2 o3 o4 o5 o6 o7 o8 : Option Value} (k1 : 0 ≤ y0 → wp X (d + 1) k_M_forged 0 0 33 [some (.ref 95), some (.int x1), some (.int y0), o3, o4, o5, o6, o7, o8] [] (mk vi vl) post) (k2 : ¬ 0 ≤ y0 → wp X (d + 1) k_M_forged 0 0 31 [some (.ref 95), some (.int x1), some (.int y0), o3, o4, o5, o6, o7, o8] [] (mk vi vl) post) : wp X (d + 1) k_M_forged 0 0 26 [some (.ref 95), some (.int x1), o2, o3, o4, o5, o6, o7, o8] [.int y0] (mk vi vl) post :=
  wr_istore_n (q := 2) (by decide +kernel) rfl (by decide) <|
  wr_iload_n (q := 2) (by decide +kernel) rfl rfl <|
  wr_if_ge (off := 5) (t := 33) (by decide +kernel) (by decide) k1 k2
theorem b_M_forged_31 {X : aX} {d : Nat} {post : aO} {vi : Nat → Nat → Int32} {vl : Nat → Nat → Int64} {x1 x2 : Int32} {o3 o4 o5 o6 o7 o8 : Option Value} (k1 : post (some (.int x2)) (mk vi vl)) : wp X (d + 1) k_M_forged 0 0 31 [some (.ref 95), some (.int x1), some (.int x2), o3, o4, o5, o6, o7, o8] [] (mk vi vl) post :=
  wr_iload_n (q := 2) (by decide +kernel) rfl rfl <|
  wr_ret (r := some (.int x2)) (Or.inr (Or.inl ⟨_, rfl, (by decide +kernel), (Or.inl rfl)⟩)) k1
theorem b_M_forged_33 {X : aX} {d : Nat} {post : aO} {vi : Nat → Nat → Int32} {vl : Nat → Nat → Int64} {x1 x2 : Int32} {o3 o4 o5 o6 o7 o8 : Option Value} (k1 : CallOk X d 0 0 k_M_plans [.ref 95] (mk vi vl) (fun r N' => wp X (d + 1) k_M_forged 0 0 37 [some (.ref 95), some (.int x1), some (.int x2), o3, o4, o5, o6, o7, o8] (pR r []) N' post)) : wp X (d + 1) k_M_forged 0 0 33 [some (.ref 95), some (.int x1), some (.int x2), o3, o4, o5, o6, o7, o8] [] (mk vi vl) post :=
  wr_aload_n (q := 0) (by decide +kernel) rfl rfl <|
  wr_invV (a := 95) (ci := 4) (mid2 := 176) (idx := 194) (b1 := 0) (b2 := 0) (c1 := 0) (c2 := 0) (as := []) (st := []) pl_176 rfl (Nat.le_of_ble_eq_true rfl) rfl rfl lq_95 sq_95 (by decide) rfl lm_M_194 im_176 is_176 (by decide +kernel) k1
theorem b_M_forged_37 {X : aX} {d : Nat} {post : aO} {vi : Nat → Nat → Int32} {vl : Nat → Nat → Int64} {x1 x2 y0 : Int32} {o3 o4 o5 o6 o7 o8 : Option Value} (k1 : CallOk X d 0 0 k_M_lays [.ref 95] (mk vi vl) (fun r N' => wp X (d + 1) k_M_forged 0 0 49 [some (.ref 95), some (.int x1), some (.int x2), some (.int y0), some (.int (0 : Int32)), some (.int (-9 : Int32)), o6, o7, o8] (pR r []) N' post)) : wp X (d + 1) k_M_forged 0 0 37 [some (.ref 95), some (.int x1), some (.int x2), o3, o4, o5, o6, o7, o8] [.int y0] (mk vi vl) post :=
  wr_istore_n (q := 3) (by decide +kernel) rfl (by decide) <|
  wr_iconst (n := 0) (v := (0 : Int32)) (by decide +kernel) (by decide) <|
  wr_istore (i := 4) (by decide +kernel) (by decide) <|
  wr_bipush (n := -9) (v := (-9 : Int32)) (by decide +kernel) (by decide) <|
  wr_istore (i := 5) (by decide +kernel) (by decide) <|
  wr_aload_n (q := 0) (by decide +kernel) rfl rfl <|
  wr_invV (a := 95) (ci := 4) (mid2 := 171) (idx := 184) (b1 := 0) (b2 := 0) (c1 := 0) (c2 := 0) (as := []) (st := []) pl_171 rfl (Nat.le_of_ble_eq_true rfl) rfl rfl lq_95 sq_95 (by decide) rfl lm_M_184 im_171 is_171 (by decide +kernel) k1
theorem b_M_forged_49 {X : aX} {d : Nat} {post : aO} {vi : Nat → Nat → Int32} {vl : Nat → Nat → Int64} {x1 x2 x3 x4 x5 : Int32} {o6 o7 o8 : Option Value} (k1 : wp X (d + 1) k_M_forged 0 0 52 [some (.ref 95), some (.int x1), some (.int x2), some (.int x3), some (.int x4), some (.int x5), some (.int (0 : Int32)), o7, o8] [] (mk vi vl) post) : wp X (d + 1) k_M_forged 0 0 49 [some (.ref 95), some (.int x1), some (.int x2), some (.int x3), some (.int x4), some (.int x5), o6, o7, o8] [] (mk vi vl) post :=
  wr_iconst (n := 0) (v := (0 : Int32)) (by decide +kernel) (by decide) <|
  wr_istore (i := 6) (by decide +kernel) (by decide) <|
  k1
theorem b_M_forged_52 {X : aX} {d : Nat} {post : aO} {vi : Nat → Nat → Int32} {vl : Nat → Nat → Int64} {x1 x2 x3 x4 x5 x6 : Int32} {o7 o8 : Option Value} (k1 : x3 ≤ x6 → wp X (d + 1) k_M_forged 0 0 144 [some (.ref 95), some (.int x1), some (.int x2), some (.int x3), some (.int x4), some (.int x5), some (.int x6), o7, o8] [] (mk vi vl) post) (k2 : ¬ x3 ≤ x6 → wp X (d + 1) k_M_forged 0 0 58 [some (.ref 95), some (.int x1), some (.int x2), some (.int x3), some (.int x4), some (.int x5), some (.int x6), o7, o8] [] (mk vi vl) post) : wp X (d + 1) k_M_forged 0 0 52 [some (.ref 95), some (.int x1), some (.int x2), some (.int x3), some (.int x4), some (.int x5), some (.int x6), o7, o8] [] (mk vi vl) post :=
  wr_iload (i := 6) (by decide +kernel) rfl <|
  wr_iload_n (q := 3) (by decide +kernel) rfl rfl <|
  wr_icmp_ge (off := 89) (t := 144) (by decide +kernel) (by decide) k1 k2
theorem b_M_forged_58 {X : aX} {d : Nat} {post : aO} {vi : Nat → Nat → Int32} {vl : Nat → Nat → Int64} {x1 x2 x3 x4 x5 x6 : Int32} {o7 o8 : Option Value} (k1 : CallOk X d 0 0 k_M_does [.ref 95, .int x6] (mk vi vl) (fun r N' => wp X (d + 1) k_M_forged 0 0 64 [some (.ref 95), some (.int x1), some (.int x2), some (.int x3), some (.int x4), some (.int x5), some (.int x6), o7, o8] (pR r []) N' post)) : wp X (d + 1) k_M_forged 0 0 58 [some (.ref 95), some (.int x1), some (.int x2), some (.int x3), some (.int x4), some (.int x5), some (.int x6), o7, o8] [] (mk vi vl) post :=
  wr_aload_n (q := 0) (by decide +kernel) rfl rfl <|
  wr_iload (i := 6) (by decide +kernel) rfl <|
  wr_invV (a := 95) (ci := 4) (mid2 := 177) (idx := 197) (b1 := 0) (b2 := 0) (c1 := 0) (c2 := 0) (as := [.int x6]) (st := []) pl_177 rfl (Nat.le_of_ble_eq_true rfl) rfl rfl lq_95 sq_95 (by decide) rfl lm_M_197 im_177 is_177 (by decide +kernel) k1
theorem b_M_forged_64 {X : aX} {d : Nat} {post : aO} {vi : Nat → Nat → Int32} {vl : Nat → Nat → Int64} {x1 x2 x3 x4 x5 x6 y0 : Int32} {o7 o8 : Option Value} (k1 : CallOk X d 0 0 k_M_in [.long y0.toInt64, .long (0 : Int64), .long (1 : Int64)] (mk vi vl) (fun r N' => wp X (d + 1) k_M_forged 0 0 74 [some (.ref 95), some (.int x1), some (.int x2), some (.int x3), some (.int x4), some (.int x5), some (.int x6), some (.int y0), o8] (pR r []) N' post)) : wp X (d + 1) k_M_forged 0 0 64 [some (.ref 95), some (.int x1), some (.int x2), some (.int x3), some (.int x4), some (.int x5), some (.int x6), o7, o8] [.int y0] (mk vi vl) post :=
  wr_istore (i := 7) (by decide +kernel) (by decide) <|
  wr_iload (i := 7) (by decide +kernel) rfl <|
  wr_i2l (by decide +kernel) <|
  wr_lconst (n := 0) (v := (0 : Int64)) (by decide +kernel) (by decide) <|
  wr_lconst (n := 1) (v := (1 : Int64)) (by decide +kernel) (by decide) <|
  wr_invS (mid2 := 118) (idx := 59) (b1 := 0) (b2 := 0) (c1 := 0) (c2 := 0) (as := [.long y0.toInt64, .long (0 : Int64), .long (1 : Int64)]) (st := []) pl_118 rfl (Nat.le_of_ble_eq_true rfl) rfl rfl lm_M_59 it_118 (by decide +kernel) k1
theorem b_M_forged_74 {X : aX} {d : Nat} {post : aO} {vi : Nat → Nat → Int32} {vl : Nat → Nat → Int64} {x1 x2 x3 x4 x5 x6 x7 y0 : Int32} {o8 : Option Value} (k1 : y0 = 0 → wp X (d + 1) k_M_forged 0 0 134 [some (.ref 95), some (.int x1), some (.int x2), some (.int x3), some (.int x4), some (.int x5), some (.int x6), some (.int x7), o8] [] (mk vi vl) post) (k2 : ¬ y0 = 0 → wp X (d + 1) k_M_forged 0 0 77 [some (.ref 95), some (.int x1), some (.int x2), some (.int x3), some (.int x4), some (.int x5), some (.int x6), some (.int x7), o8] [] (mk vi vl) post) : wp X (d + 1) k_M_forged 0 0 74 [some (.ref 95), some (.int x1), some (.int x2), some (.int x3), some (.int x4), some (.int x5), some (.int x6), some (.int x7), o8] [.int y0] (mk vi vl) post :=
  wr_if_eq (off := 60) (t := 134) (by decide +kernel) (by decide) k1 k2
theorem b_M_forged_77 {X : aX} {d : Nat} {post : aO} {vi : Nat → Nat → Int32} {vl : Nat → Nat → Int64} {x1 x2 x3 x4 x5 x6 x7 : Int32} {o8 : Option Value} (k1 : CallOk X d 0 0 k_M_isSo [.ref 95, .int x1] (mk vi vl) (fun r N' => wp X (d + 1) k_M_forged 0 0 82 [some (.ref 95), some (.int x1), some (.int x2), some (.int x3), some (.int x4), some (.int x5), some (.int x6), some (.int x7), o8] (pR r []) N' post)) : wp X (d + 1) k_M_forged 0 0 77 [some (.ref 95), some (.int x1), some (.int x2), some (.int x3), some (.int x4), some (.int x5), some (.int x6), some (.int x7), o8] [] (mk vi vl) post :=
  wr_aload_n (q := 0) (by decide +kernel) rfl rfl <|
  wr_iload_n (q := 1) (by decide +kernel) rfl rfl <|
  wr_invV (a := 95) (ci := 4) (mid2 := 186) (idx := 220) (b1 := 0) (b2 := 0) (c1 := 0) (c2 := 0) (as := [.int x1]) (st := []) pl_186 rfl (Nat.le_of_ble_eq_true rfl) rfl rfl lq_95 sq_95 (by decide) rfl lm_M_220 im_186 is_186 (by decide +kernel) k1
theorem b_M_forged_82 {X : aX} {d : Nat} {post : aO} {vi : Nat → Nat → Int32} {vl : Nat → Nat → Int64} {x1 x2 x3 x4 x5 x6 x7 y0 : Int32} {o8 : Option Value} (k1 : y0 = 0 → wp X (d + 1) k_M_forged 0 0 134 [some (.ref 95), some (.int x1), some (.int x2), some (.int x3), some (.int x4), some (.int x5), some (.int x6), some (.int x7), o8] [] (mk vi vl) post) (k2 : ¬ y0 = 0 → wp X (d + 1) k_M_forged 0 0 85 [some (.ref 95), some (.int x1), some (.int x2), some (.int x3), some (.int x4), some (.int x5), some (.int x6), some (.int x7), o8] [] (mk vi vl) post) : wp X (d + 1) k_M_forged 0 0 82 [some (.ref 95), some (.int x1), some (.int x2), some (.int x3), some (.int x4), some (.int x5), some (.int x6), some (.int x7), o8] [.int y0] (mk vi vl) post :=
  wr_if_eq (off := 52) (t := 134) (by decide +kernel) (by decide) k1 k2
theorem b_M_forged_85 {X : aX} {d : Nat} {post : aO} {vi : Nat → Nat → Int32} {vl : Nat → Nat → Int64} {x1 x2 x3 x4 x5 x6 x7 : Int32} {o8 : Option Value} (k1 : wp X (d + 1) k_M_forged 0 0 88 [some (.ref 95), some (.int x1), some (.int x2), some (.int x3), some (.int x4), some (.int x5), some (.int x6), some (.int x7), some (.int (0 : Int32))] [] (mk vi vl) post) : wp X (d + 1) k_M_forged 0 0 85 [some (.ref 95), some (.int x1), some (.int x2), some (.int x3), some (.int x4), some (.int x5), some (.int x6), some (.int x7), o8] [] (mk vi vl) post :=
  wr_iconst (n := 0) (v := (0 : Int32)) (by decide +kernel) (by decide) <|
  wr_istore (i := 8) (by decide +kernel) (by decide) <|
  k1
theorem b_M_forged_88 {X : aX} {d : Nat} {post : aO} {vi : Nat → Nat → Int32} {vl : Nat → Nat → Int64} {x1 x2 x3 x4 x5 x6 x7 x8 : Int32} (k1 : (vi 96 0) ≤ x8 → wp X (d + 1) k_M_forged 0 0 131 [some (.ref 95), some (.int x1), some (.int x2), some (.int x3), some (.int x4), some (.int x5), some (.int x6), some (.int x7), some (.int x8)] [] (mk vi vl) post) (k2 : ¬ (vi 96 0) ≤ x8 → wp X (d + 1) k_M_forged 0 0 99 [some (.ref 95), some (.int x1), some (.int x2), some (.int x3), some (.int x4), some (.int x5), some (.int x6), some (.int x7), some (.int x8)] [] (mk vi vl) post) : wp X (d + 1) k_M_forged 0 0 88 [some (.ref 95), some (.int x1), some (.int x2), some (.int x3), some (.int x4), some (.int x5), some (.int x6), some (.int x7), some (.int x8)] [] (mk vi vl) post :=
  wr_iload (i := 8) (by decide +kernel) rfl <|
  wr_aload_n (q := 0) (by decide +kernel) rfl rfl <|
  wr_getR2 (b := 96) (ci := 4) (k0 := 0) (idx := 7) lq_95 sq_95 (by decide) (by decide) lf_M_7 rfl vq_95_0 lq_96 (by decide +kernel) <|
  wr_iconst (n := 0) (v := (0 : Int32)) (by decide +kernel) (by decide) <|
  wr_iald lq_96 sq_96 (by unfold vp_in; decide) (by decide +kernel) <|
  wr_icmp_ge (off := 35) (t := 131) (by decide +kernel) (by decide) k1 k2
theorem b_M_forged_99 {X : aX} {d : Nat} {post : aO} {vi : Nat → Nat → Int32} {vl : Nat → Nat → Int64} {x1 x2 x3 x4 x5 x6 x7 x8 : Int32} (k1 : ¬ x4 = 0 → wp X (d + 1) k_M_forged 0 0 131 [some (.ref 95), some (.int x1), some (.int x2), some (.int x3), some (.int x4), some (.int x5), some (.int x6), some (.int x7), some (.int x8)] [] (mk vi vl) post) (k2 : x4 = 0 → wp X (d + 1) k_M_forged 0 0 104 [some (.ref 95), some (.int x1), some (.int x2), some (.int x3), some (.int x4), some (.int x5), some (.int x6), some (.int x7), some (.int x8)] [] (mk vi vl) post) : wp X (d + 1) k_M_forged 0 0 99 [some (.ref 95), some (.int x1), some (.int x2), some (.int x3), some (.int x4), some (.int x5), some (.int x6), some (.int x7), some (.int x8)] [] (mk vi vl) post :=
  wr_iload (i := 4) (by decide +kernel) rfl <|
  wr_if_ne (off := 30) (t := 131) (by decide +kernel) (by decide) k1 k2
theorem b_M_forged_104 {X : aX} {d : Nat} {post : aO} {vi : Nat → Nat → Int32} {vl : Nat → Nat → Int64} {x1 x2 x3 x4 x5 x6 x7 x8 : Int32} (q1 : vp_in x8 5) (k1 : ¬ (vi 106 x8.toNatClampNeg) = (6 : Int32) → wp X (d + 1) k_M_forged 0 0 121 [some (.ref 95), some (.int x1), some (.int x2), some (.int x3), some (.int x4), some (.int x5), some (.int x6), some (.int x7), some (.int x8)] [] (mk vi vl) post) (k2 : (vi 106 x8.toNatClampNeg) = (6 : Int32) → wp X (d + 1) k_M_forged 0 0 116 [some (.ref 95), some (.int x1), some (.int x2), some (.int x3), some (.int x4), some (.int x5), some (.int x6), some (.int x7), some (.int x8)] [] (mk vi vl) post) : wp X (d + 1) k_M_forged 0 0 104 [some (.ref 95), some (.int x1), some (.int x2), some (.int x3), some (.int x4), some (.int x5), some (.int x6), some (.int x7), some (.int x8)] [] (mk vi vl) post :=
  wr_aload_n (q := 0) (by decide +kernel) rfl rfl <|
  wr_getR2 (b := 106) (ci := 4) (k0 := 17) (idx := 48) lq_95 sq_95 (by decide) (by decide) lf_M_48 rfl vq_95_17 lq_106 (by decide +kernel) <|
  wr_iload (i := 8) (by decide +kernel) rfl <|
  wr_iald lq_106 sq_106 q1 (by decide +kernel) <|
  wr_bipush (n := 6) (v := (6 : Int32)) (by decide +kernel) (by decide) <|
  wr_icmp_ne (off := 8) (t := 121) (by decide +kernel) (by decide) k1 k2
theorem b_M_forged_116 {X : aX} {d : Nat} {post : aO} {vi : Nat → Nat → Int32} {vl : Nat → Nat → Int64} {x1 x2 x3 x4 x5 x6 x7 x8 : Int32} (k1 : wp X (d + 1) k_M_forged 0 0 123 [some (.ref 95), some (.int x1), some (.int x2), some (.int x3), some (.int x4), some (.int x5), some (.int x6), some (.int x7), some (.int x8)] [.int x5] (mk vi vl) post) : wp X (d + 1) k_M_forged 0 0 116 [some (.ref 95), some (.int x1), some (.int x2), some (.int x3), some (.int x4), some (.int x5), some (.int x6), some (.int x7), some (.int x8)] [] (mk vi vl) post :=
  wr_iload (i := 5) (by decide +kernel) rfl <|
  wr_goto (off := 5) (t := 123) (by decide +kernel) (by decide) k1
theorem b_M_forged_121 {X : aX} {d : Nat} {post : aO} {vi : Nat → Nat → Int32} {vl : Nat → Nat → Int64} {x1 x2 x3 x4 x5 x6 x7 x8 : Int32} (k1 : wp X (d + 1) k_M_forged 0 0 123 [some (.ref 95), some (.int x1), some (.int x2), some (.int x3), some (.int x4), some (.int x5), some (.int x6), some (.int x7), some (.int x8)] [.int x8] (mk vi vl) post) : wp X (d + 1) k_M_forged 0 0 121 [some (.ref 95), some (.int x1), some (.int x2), some (.int x3), some (.int x4), some (.int x5), some (.int x6), some (.int x7), some (.int x8)] [] (mk vi vl) post :=
  wr_iload (i := 8) (by decide +kernel) rfl <|
  k1
theorem b_M_forged_123 {X : aX} {d : Nat} {post : aO} {vi : Nat → Nat → Int32} {vl : Nat → Nat → Int64} {x1 x2 x3 x4 x5 x6 x7 x8 y0 : Int32} (k1 : wp X (d + 1) k_M_forged 0 0 88 [some (.ref 95), some (.int x1), some (.int x2), some (.int x3), some (.int x4), some (.int y0), some (.int x6), some (.int x7), some (.int (x8 + (1 : Int32)))] [] (mk vi vl) post) : wp X (d + 1) k_M_forged 0 0 123 [some (.ref 95), some (.int x1), some (.int x2), some (.int x3), some (.int x4), some (.int x5), some (.int x6), some (.int x7), some (.int x8)] [.int y0] (mk vi vl) post :=
  wr_istore (i := 5) (by decide +kernel) (by decide) <|
  wr_iinc (i := 8) (n := 1) (v := (1 : Int32)) (by decide +kernel) rfl (by decide) (by decide) <|
  wr_goto (off := -40) (t := 88) (by decide +kernel) (by decide) k1
theorem b_M_forged_131 {X : aX} {d : Nat} {post : aO} {vi : Nat → Nat → Int32} {vl : Nat → Nat → Int64} {x1 x2 x3 x4 x5 x6 x7 x8 : Int32} (k1 : wp X (d + 1) k_M_forged 0 0 134 [some (.ref 95), some (.int x1), some (.int x2), some (.int x3), some (.int (x4 + (1 : Int32))), some (.int x5), some (.int x6), some (.int x7), some (.int x8)] [] (mk vi vl) post) : wp X (d + 1) k_M_forged 0 0 131 [some (.ref 95), some (.int x1), some (.int x2), some (.int x3), some (.int x4), some (.int x5), some (.int x6), some (.int x7), some (.int x8)] [] (mk vi vl) post :=
  wr_iinc (i := 4) (n := 1) (v := (1 : Int32)) (by decide +kernel) rfl (by decide) (by decide) <|
  k1
theorem b_M_forged_134 {X : aX} {d : Nat} {post : aO} {vi : Nat → Nat → Int32} {vl : Nat → Nat → Int64} {x1 x2 x3 x4 x5 x6 x7 : Int32} {o8 : Option Value} (k1 : CallOk X d 0 0 k_M_putsBack [.ref 95] (mk vi vl) (fun r N' => wp X (d + 1) k_M_forged 0 0 138 [some (.ref 95), some (.int x1), some (.int x2), some (.int x3), some (.int x4), some (.int x5), some (.int x6), some (.int x7), o8] (pR r []) N' post)) : wp X (d + 1) k_M_forged 0 0 134 [some (.ref 95), some (.int x1), some (.int x2), some (.int x3), some (.int x4), some (.int x5), some (.int x6), some (.int x7), o8] [] (mk vi vl) post :=
  wr_aload_n (q := 0) (by decide +kernel) rfl rfl <|
  wr_invV (a := 95) (ci := 4) (mid2 := 172) (idx := 187) (b1 := 0) (b2 := 0) (c1 := 0) (c2 := 0) (as := []) (st := []) pl_172 rfl (Nat.le_of_ble_eq_true rfl) rfl rfl lq_95 sq_95 (by decide) rfl lm_M_187 im_172 is_172 (by decide +kernel) k1
theorem b_M_forged_138 {X : aX} {d : Nat} {post : aO} {vi : Nat → Nat → Int32} {vl : Nat → Nat → Int64} {x1 x2 x3 x4 x5 x6 x7 : Int32} {o8 : Option Value} (k1 : wp X (d + 1) k_M_forged 0 0 52 [some (.ref 95), some (.int x1), some (.int x2), some (.int x3), some (.int x4), some (.int x5), some (.int (x6 + (1 : Int32))), some (.int x7), o8] [] (mk vi vl) post) : wp X (d + 1) k_M_forged 0 0 138 [some (.ref 95), some (.int x1), some (.int x2), some (.int x3), some (.int x4), some (.int x5), some (.int x6), some (.int x7), o8] [] (mk vi vl) post :=
  wr_iinc (i := 6) (n := 1) (v := (1 : Int32)) (by decide +kernel) rfl (by decide) (by decide) <|
  wr_goto (off := -89) (t := 52) (by decide +kernel) (by decide) k1
theorem b_M_forged_144 {X : aX} {d : Nat} {post : aO} {vi : Nat → Nat → Int32} {vl : Nat → Nat → Int64} {x1 x2 x3 x4 x5 x6 : Int32} {o7 o8 : Option Value} (k1 : CallOk X d 0 0 k_M_tells [.ref 95, .int x5, .int x4] (mk vi vl) (fun r N' => wp X (d + 1) k_M_forged 0 0 152 [some (.ref 95), some (.int x1), some (.int x2), some (.int x3), some (.int x4), some (.int x5), some (.int x6), o7, o8] (pR r []) N' post)) : wp X (d + 1) k_M_forged 0 0 144 [some (.ref 95), some (.int x1), some (.int x2), some (.int x3), some (.int x4), some (.int x5), some (.int x6), o7, o8] [] (mk vi vl) post :=
  wr_aload_n (q := 0) (by decide +kernel) rfl rfl <|
  wr_iload (i := 5) (by decide +kernel) rfl <|
  wr_iload (i := 4) (by decide +kernel) rfl <|
  wr_invV (a := 95) (ci := 4) (mid2 := 123) (idx := 81) (b1 := 0) (b2 := 0) (c1 := 0) (c2 := 0) (as := [.int x5, .int x4]) (st := []) pl_123 rfl (Nat.le_of_ble_eq_true rfl) rfl rfl lq_95 sq_95 (by decide) rfl lm_M_81 im_123 is_123 (by decide +kernel) k1
theorem b_M_forged_152 {X : aX} {d : Nat} {post : aO} {vi : Nat → Nat → Int32} {vl : Nat → Nat → Int64} {x1 x2 x3 x4 x5 x6 y0 : Int32} {o7 o8 : Option Value} (k1 : post (some (.int y0)) (mk vi vl)) : wp X (d + 1) k_M_forged 0 0 152 [some (.ref 95), some (.int x1), some (.int x2), some (.int x3), some (.int x4), some (.int x5), some (.int x6), o7, o8] [.int y0] (mk vi vl) post :=
  wr_ret (r := some (.int y0)) (Or.inr (Or.inl ⟨_, rfl, (by decide +kernel), (Or.inl rfl)⟩)) k1
theorem b_M_odds_0 {X : aX} {d : Nat} {post : aO} {vi : Nat → Nat → Int32} {vl : Nat → Nat → Int64} {x1 x2 : Int32} (k1 : CallOk X d 0 0 k_M_isTold [.int x1] (mk vi vl) (fun r N' => wp X (d + 1) k_M_odds 0 0 4 [some (.ref 95), some (.int x1), some (.int x2), none, none, none, none, none, none] (pR r []) N' post)) : wp X (d + 1) k_M_odds 0 0 0 [some (.ref 95), some (.int x1), some (.int x2), none, none, none, none, none, none] [] (mk vi vl) post :=
  wr_iload_n (q := 1) (by decide +kernel) rfl rfl <|
  wr_invS (mid2 := 157) (idx := 168) (b1 := 0) (b2 := 0) (c1 := 0) (c2 := 0) (as := [.int x1]) (st := []) pl_157 rfl (Nat.le_of_ble_eq_true rfl) rfl rfl lm_M_168 it_157 (by decide +kernel) k1
theorem b_M_odds_4 {X : aX} {d : Nat} {post : aO} {vi : Nat → Nat → Int32} {vl : Nat → Nat → Int64} {x1 x2 y0 : Int32} {o3 o4 o5 o6 o7 o8 : Option Value} (k1 : y0 = 0 → wp X (d + 1) k_M_odds 0 0 15 [some (.ref 95), some (.int x1), some (.int x2), o3, o4, o5, o6, o7, o8] [] (mk vi vl) post) (k2 : ¬ y0 = 0 → wp X (d + 1) k_M_odds 0 0 7 [some (.ref 95), some (.int x1), some (.int x2), o3, o4, o5, o6, o7, o8] [] (mk vi vl) post) : wp X (d + 1) k_M_odds 0 0 4 [some (.ref 95), some (.int x1), some (.int x2), o3, o4, o5, o6, o7, o8] [.int y0] (mk vi vl) post :=
  wr_if_eq (off := 11) (t := 15) (by decide +kernel) (by decide) k1 k2
theorem b_M_odds_7 {X : aX} {d : Nat} {post : aO} {vi : Nat → Nat → Int32} {vl : Nat → Nat → Int64} {x1 x2 : Int32} {o3 o4 o5 o6 o7 o8 : Option Value} (k1 : CallOk X d 0 0 k_M_isYear [.ref 95, .int x2] (mk vi vl) (fun r N' => wp X (d + 1) k_M_odds 0 0 12 [some (.ref 95), some (.int x1), some (.int x2), o3, o4, o5, o6, o7, o8] (pR r []) N' post)) : wp X (d + 1) k_M_odds 0 0 7 [some (.ref 95), some (.int x1), some (.int x2), o3, o4, o5, o6, o7, o8] [] (mk vi vl) post :=
  wr_aload_n (q := 0) (by decide +kernel) rfl rfl <|
  wr_iload_n (q := 2) (by decide +kernel) rfl rfl <|
  wr_invV (a := 95) (ci := 4) (mid2 := 143) (idx := 151) (b1 := 0) (b2 := 0) (c1 := 0) (c2 := 0) (as := [.int x2]) (st := []) pl_143 rfl (Nat.le_of_ble_eq_true rfl) rfl rfl lq_95 sq_95 (by decide) rfl lm_M_151 im_143 is_143 (by decide +kernel) k1
theorem b_M_odds_12 {X : aX} {d : Nat} {post : aO} {vi : Nat → Nat → Int32} {vl : Nat → Nat → Int64} {x1 x2 y0 : Int32} {o3 o4 o5 o6 o7 o8 : Option Value} (k1 : ¬ y0 = 0 → wp X (d + 1) k_M_odds 0 0 17 [some (.ref 95), some (.int x1), some (.int x2), o3, o4, o5, o6, o7, o8] [] (mk vi vl) post) (k2 : y0 = 0 → wp X (d + 1) k_M_odds 0 0 15 [some (.ref 95), some (.int x1), some (.int x2), o3, o4, o5, o6, o7, o8] [] (mk vi vl) post) : wp X (d + 1) k_M_odds 0 0 12 [some (.ref 95), some (.int x1), some (.int x2), o3, o4, o5, o6, o7, o8] [.int y0] (mk vi vl) post :=
  wr_if_ne (off := 5) (t := 17) (by decide +kernel) (by decide) k1 k2
theorem b_M_odds_15 {X : aX} {d : Nat} {post : aO} {vi : Nat → Nat → Int32} {vl : Nat → Nat → Int64} {x1 x2 : Int32} {o3 o4 o5 o6 o7 o8 : Option Value} (k1 : post (some (.int (-1 : Int32))) (mk vi vl)) : wp X (d + 1) k_M_odds 0 0 15 [some (.ref 95), some (.int x1), some (.int x2), o3, o4, o5, o6, o7, o8] [] (mk vi vl) post :=
  wr_iconst (n := -1) (v := (-1 : Int32)) (by decide +kernel) (by decide) <|
  wr_ret (r := some (.int (-1 : Int32))) (Or.inr (Or.inl ⟨_, rfl, (by decide +kernel), (Or.inl rfl)⟩)) k1
theorem b_M_odds_17 {X : aX} {d : Nat} {post : aO} {vi : Nat → Nat → Int32} {vl : Nat → Nat → Int64} {x1 x2 : Int32} {o3 o4 o5 o6 o7 o8 : Option Value} (k1 : CallOk X d 0 0 k_M_yearsThat [.ref 95, .int (0 : Int32)] (mk vi vl) (fun r N' => wp X (d + 1) k_M_odds 0 0 24 [some (.ref 95), some (.int x1), some (.int x2), some (.int (1 : Int32)), o4, o5, o6, o7, o8] (pR r []) N' post)) : wp X (d + 1) k_M_odds 0 0 17 [some (.ref 95), some (.int x1), some (.int x2), o3, o4, o5, o6, o7, o8] [] (mk vi vl) post :=
  wr_iconst (n := 1) (v := (1 : Int32)) (by decide +kernel) (by decide) <|
  wr_istore_n (q := 3) (by decide +kernel) rfl (by decide) <|
  wr_aload_n (q := 0) (by decide +kernel) rfl rfl <|
  wr_iconst (n := 0) (v := (0 : Int32)) (by decide +kernel) (by decide) <|
  wr_invV (a := 95) (ci := 4) (mid2 := 155) (idx := 165) (b1 := 0) (b2 := 0) (c1 := 0) (c2 := 0) (as := [.int (0 : Int32)]) (st := []) pl_155 rfl (Nat.le_of_ble_eq_true rfl) rfl rfl lq_95 sq_95 (by decide) rfl lm_M_165 im_155 is_155 (by decide +kernel) k1
theorem b_M_odds_24 {X : aX} {d : Nat} {post : aO} {vi : Nat → Nat → Int32} {vl : Nat → Nat → Int64} {x1 x2 x3 y0 : Int32} {o4 o5 o6 o7 o8 : Option Value} (k1 : wp X (d + 1) k_M_odds 0 0 29 [some (.ref 95), some (.int x1), some (.int x2), some (.int x3), some (.int y0), some (.int (0 : Int32)), o6, o7, o8] [] (mk vi vl) post) : wp X (d + 1) k_M_odds 0 0 24 [some (.ref 95), some (.int x1), some (.int x2), some (.int x3), o4, o5, o6, o7, o8] [.int y0] (mk vi vl) post :=
  wr_istore (i := 4) (by decide +kernel) (by decide) <|
  wr_iconst (n := 0) (v := (0 : Int32)) (by decide +kernel) (by decide) <|
  wr_istore (i := 5) (by decide +kernel) (by decide) <|
  k1
theorem b_M_odds_29 {X : aX} {d : Nat} {post : aO} {vi : Nat → Nat → Int32} {vl : Nat → Nat → Int64} {x1 x2 x3 x4 x5 : Int32} {o6 o7 o8 : Option Value} (k1 : CallOk X d 0 0 k_M_ones [.int x4] (mk vi vl) (fun r N' => wp X (d + 1) k_M_odds 0 0 36 [some (.ref 95), some (.int x1), some (.int x2), some (.int x3), some (.int x4), some (.int x5), o6, o7, o8] (pR r [.int x5]) N' post)) : wp X (d + 1) k_M_odds 0 0 29 [some (.ref 95), some (.int x1), some (.int x2), some (.int x3), some (.int x4), some (.int x5), o6, o7, o8] [] (mk vi vl) post :=
  wr_iload (i := 5) (by decide +kernel) rfl <|
  wr_iload (i := 4) (by decide +kernel) rfl <|
  wr_invS (mid2 := 153) (idx := 142) (b1 := 0) (b2 := 0) (c1 := 0) (c2 := 0) (as := [.int x4]) (st := [.int x5]) pl_153 rfl (Nat.le_of_ble_eq_true rfl) rfl rfl lm_M_142 it_153 (by decide +kernel) k1
theorem b_M_odds_36 {X : aX} {d : Nat} {post : aO} {vi : Nat → Nat → Int32} {vl : Nat → Nat → Int64} {x1 x2 x3 x4 x5 y0 y1 : Int32} {o6 o7 o8 : Option Value} (k1 : y1 ≤ y0 → wp X (d + 1) k_M_odds 0 0 50 [some (.ref 95), some (.int x1), some (.int x2), some (.int x3), some (.int x4), some (.int x5), o6, o7, o8] [] (mk vi vl) post) (k2 : ¬ y1 ≤ y0 → wp X (d + 1) k_M_odds 0 0 39 [some (.ref 95), some (.int x1), some (.int x2), some (.int x3), some (.int x4), some (.int x5), o6, o7, o8] [] (mk vi vl) post) : wp X (d + 1) k_M_odds 0 0 36 [some (.ref 95), some (.int x1), some (.int x2), some (.int x3), some (.int x4), some (.int x5), o6, o7, o8] [.int y1, .int y0] (mk vi vl) post :=
  wr_icmp_ge (off := 14) (t := 50) (by decide +kernel) (by decide) k1 k2
theorem b_M_odds_39 {X : aX} {d : Nat} {post : aO} {vi : Nat → Nat → Int32} {vl : Nat → Nat → Int64} {x1 x2 x3 x4 x5 : Int32} {o6 o7 o8 : Option Value} (k1 : wp X (d + 1) k_M_odds 0 0 29 [some (.ref 95), some (.int x1), some (.int x2), some (.int (x3 * (6 : Int32))), some (.int x4), some (.int (x5 + (1 : Int32))), o6, o7, o8] [] (mk vi vl) post) : wp X (d + 1) k_M_odds 0 0 39 [some (.ref 95), some (.int x1), some (.int x2), some (.int x3), some (.int x4), some (.int x5), o6, o7, o8] [] (mk vi vl) post :=
  wr_iload_n (q := 3) (by decide +kernel) rfl rfl <|
  wr_bipush (n := 6) (v := (6 : Int32)) (by decide +kernel) (by decide) <|
  wr_imul (by decide +kernel) <|
  wr_istore_n (q := 3) (by decide +kernel) rfl (by decide) <|
  wr_iinc (i := 5) (n := 1) (v := (1 : Int32)) (by decide +kernel) rfl (by decide) (by decide) <|
  wr_goto (off := -18) (t := 29) (by decide +kernel) (by decide) k1
theorem b_M_odds_50 {X : aX} {d : Nat} {post : aO} {vi : Nat → Nat → Int32} {vl : Nat → Nat → Int64} {x1 x2 x3 x4 x5 : Int32} {o6 o7 o8 : Option Value} (k1 : CallOk X d 0 0 k_M_lays [.ref 95] (mk vi vl) (fun r N' => wp X (d + 1) k_M_odds 0 0 57 [some (.ref 95), some (.int x1), some (.int x2), some (.int x3), some (.int x4), some (.int (0 : Int32)), o6, o7, o8] (pR r []) N' post)) : wp X (d + 1) k_M_odds 0 0 50 [some (.ref 95), some (.int x1), some (.int x2), some (.int x3), some (.int x4), some (.int x5), o6, o7, o8] [] (mk vi vl) post :=
  wr_iconst (n := 0) (v := (0 : Int32)) (by decide +kernel) (by decide) <|
  wr_istore (i := 5) (by decide +kernel) (by decide) <|
  wr_aload_n (q := 0) (by decide +kernel) rfl rfl <|
  wr_invV (a := 95) (ci := 4) (mid2 := 171) (idx := 184) (b1 := 0) (b2 := 0) (c1 := 0) (c2 := 0) (as := []) (st := []) pl_171 rfl (Nat.le_of_ble_eq_true rfl) rfl rfl lq_95 sq_95 (by decide) rfl lm_M_184 im_171 is_171 (by decide +kernel) k1
theorem b_M_odds_57 {X : aX} {d : Nat} {post : aO} {vi : Nat → Nat → Int32} {vl : Nat → Nat → Int64} {x1 x2 x3 x4 x5 : Int32} {o6 o7 o8 : Option Value} (k1 : wp X (d + 1) k_M_odds 0 0 60 [some (.ref 95), some (.int x1), some (.int x2), some (.int x3), some (.int x4), some (.int x5), some (.int (0 : Int32)), o7, o8] [] (mk vi vl) post) : wp X (d + 1) k_M_odds 0 0 57 [some (.ref 95), some (.int x1), some (.int x2), some (.int x3), some (.int x4), some (.int x5), o6, o7, o8] [] (mk vi vl) post :=
  wr_iconst (n := 0) (v := (0 : Int32)) (by decide +kernel) (by decide) <|
  wr_istore (i := 6) (by decide +kernel) (by decide) <|
  k1
theorem b_M_odds_60 {X : aX} {d : Nat} {post : aO} {vi : Nat → Nat → Int32} {vl : Nat → Nat → Int64} {x1 x2 x3 x4 x5 x6 : Int32} {o7 o8 : Option Value} (k1 : x3 ≤ x6 → wp X (d + 1) k_M_odds 0 0 161 [some (.ref 95), some (.int x1), some (.int x2), some (.int x3), some (.int x4), some (.int x5), some (.int x6), o7, o8] [] (mk vi vl) post) (k2 : ¬ x3 ≤ x6 → wp X (d + 1) k_M_odds 0 0 66 [some (.ref 95), some (.int x1), some (.int x2), some (.int x3), some (.int x4), some (.int x5), some (.int x6), o7, o8] [] (mk vi vl) post) : wp X (d + 1) k_M_odds 0 0 60 [some (.ref 95), some (.int x1), some (.int x2), some (.int x3), some (.int x4), some (.int x5), some (.int x6), o7, o8] [] (mk vi vl) post :=
  wr_iload (i := 6) (by decide +kernel) rfl <|
  wr_iload_n (q := 3) (by decide +kernel) rfl rfl <|
  wr_icmp_ge (off := 98) (t := 161) (by decide +kernel) (by decide) k1 k2
theorem b_M_odds_66 {X : aX} {d : Nat} {post : aO} {vi : Nat → Nat → Int32} {vl : Nat → Nat → Int64} {x1 x2 x3 x4 x5 x6 : Int32} {o7 o8 : Option Value} (k1 : wp X (d + 1) k_M_odds 0 0 73 [some (.ref 95), some (.int x1), some (.int x2), some (.int x3), some (.int x4), some (.int x5), some (.int x6), some (.int x6), some (.int (0 : Int32))] [] (mk vi vl) post) : wp X (d + 1) k_M_odds 0 0 66 [some (.ref 95), some (.int x1), some (.int x2), some (.int x3), some (.int x4), some (.int x5), some (.int x6), o7, o8] [] (mk vi vl) post :=
  wr_iload (i := 6) (by decide +kernel) rfl <|
  wr_istore (i := 7) (by decide +kernel) (by decide) <|
  wr_iconst (n := 0) (v := (0 : Int32)) (by decide +kernel) (by decide) <|
  wr_istore (i := 8) (by decide +kernel) (by decide) <|
  k1
theorem b_M_odds_73 {X : aX} {d : Nat} {post : aO} {vi : Nat → Nat → Int32} {vl : Nat → Nat → Int64} {x1 x2 x3 x4 x5 x6 x7 x8 : Int32} (k1 : (vi 96 0) ≤ x8 → wp X (d + 1) k_M_odds 0 0 127 [some (.ref 95), some (.int x1), some (.int x2), some (.int x3), some (.int x4), some (.int x5), some (.int x6), some (.int x7), some (.int x8)] [] (mk vi vl) post) (k2 : ¬ (vi 96 0) ≤ x8 → wp X (d + 1) k_M_odds 0 0 84 [some (.ref 95), some (.int x1), some (.int x2), some (.int x3), some (.int x4), some (.int x5), some (.int x6), some (.int x7), some (.int x8)] [] (mk vi vl) post) : wp X (d + 1) k_M_odds 0 0 73 [some (.ref 95), some (.int x1), some (.int x2), some (.int x3), some (.int x4), some (.int x5), some (.int x6), some (.int x7), some (.int x8)] [] (mk vi vl) post :=
  wr_iload (i := 8) (by decide +kernel) rfl <|
  wr_aload_n (q := 0) (by decide +kernel) rfl rfl <|
  wr_getR2 (b := 96) (ci := 4) (k0 := 0) (idx := 7) lq_95 sq_95 (by decide) (by decide) lf_M_7 rfl vq_95_0 lq_96 (by decide +kernel) <|
  wr_iconst (n := 0) (v := (0 : Int32)) (by decide +kernel) (by decide) <|
  wr_iald lq_96 sq_96 (by unfold vp_in; decide) (by decide +kernel) <|
  wr_icmp_ge (off := 46) (t := 127) (by decide +kernel) (by decide) k1 k2
theorem b_M_odds_84 {X : aX} {d : Nat} {post : aO} {vi : Nat → Nat → Int32} {vl : Nat → Nat → Int64} {x1 x2 x3 x4 x5 x6 x7 x8 : Int32} (k1 : CallOk X d 0 0 k_M_has [.int x4, .int x8] (mk vi vl) (fun r N' => wp X (d + 1) k_M_odds 0 0 91 [some (.ref 95), some (.int x1), some (.int x2), some (.int x3), some (.int x4), some (.int x5), some (.int x6), some (.int x7), some (.int x8)] (pR r []) N' post)) : wp X (d + 1) k_M_odds 0 0 84 [some (.ref 95), some (.int x1), some (.int x2), some (.int x3), some (.int x4), some (.int x5), some (.int x6), some (.int x7), some (.int x8)] [] (mk vi vl) post :=
  wr_iload (i := 4) (by decide +kernel) rfl <|
  wr_iload (i := 8) (by decide +kernel) rfl <|
  wr_invS (mid2 := 169) (idx := 181) (b1 := 0) (b2 := 0) (c1 := 0) (c2 := 0) (as := [.int x4, .int x8]) (st := []) pl_169 rfl (Nat.le_of_ble_eq_true rfl) rfl rfl lm_M_181 it_169 (by decide +kernel) k1
theorem b_M_odds_91 {X : aX} {d : Nat} {post : aO} {vi : Nat → Nat → Int32} {vl : Nat → Nat → Int64} {x1 x2 x3 x4 x5 x6 x7 x8 y0 : Int32} (k1 : y0 = 0 → wp X (d + 1) k_M_odds 0 0 121 [some (.ref 95), some (.int x1), some (.int x2), some (.int x3), some (.int x4), some (.int x5), some (.int x6), some (.int x7), some (.int x8)] [] (mk vi vl) post) (k2 : ¬ y0 = 0 → wp X (d + 1) k_M_odds 0 0 94 [some (.ref 95), some (.int x1), some (.int x2), some (.int x3), some (.int x4), some (.int x5), some (.int x6), some (.int x7), some (.int x8)] [] (mk vi vl) post) : wp X (d + 1) k_M_odds 0 0 91 [some (.ref 95), some (.int x1), some (.int x2), some (.int x3), some (.int x4), some (.int x5), some (.int x6), some (.int x7), some (.int x8)] [.int y0] (mk vi vl) post :=
  wr_if_eq (off := 30) (t := 121) (by decide +kernel) (by decide) k1 k2
theorem b_M_odds_94 {X : aX} {d : Nat} {post : aO} {vi : Nat → Nat → Int32} {vl : Nat → Nat → Int64} {x1 x2 x3 x4 x5 x6 x7 x8 : Int32} (k1 : (5 : Int32) ≤ (x7 - x7 / (6 : Int32) * (6 : Int32)) → wp X (d + 1) k_M_odds 0 0 114 [some (.ref 95), some (.int x1), some (.int x2), some (.int x3), some (.int x4), some (.int x5), some (.int x6), some (.int x7), some (.int x8)] [] (mk vi vl) post) (k2 : ¬ (5 : Int32) ≤ (x7 - x7 / (6 : Int32) * (6 : Int32)) → wp X (d + 1) k_M_odds 0 0 103 [some (.ref 95), some (.int x1), some (.int x2), some (.int x3), some (.int x4), some (.int x5), some (.int x6), some (.int x7), some (.int x8)] [] (mk vi vl) post) : wp X (d + 1) k_M_odds 0 0 94 [some (.ref 95), some (.int x1), some (.int x2), some (.int x3), some (.int x4), some (.int x5), some (.int x6), some (.int x7), some (.int x8)] [] (mk vi vl) post :=
  wr_iload (i := 7) (by decide +kernel) rfl <|
  wr_bipush (n := 6) (v := (6 : Int32)) (by decide +kernel) (by decide) <|
  wr_irem (by decide +kernel) (by decide) <|
  wr_iconst (n := 5) (v := (5 : Int32)) (by decide +kernel) (by decide) <|
  wr_icmp_ge (off := 14) (t := 114) (by decide +kernel) (by decide) k1 k2
theorem b_M_odds_103 {X : aX} {d : Nat} {post : aO} {vi : Nat → Nat → Int32} {vl : Nat → Nat → Int64} {x1 x2 x3 x4 x5 x6 x7 x8 : Int32} (k1 : CallOk X d 0 0 k_M_sews [.ref 95, .int x8, .int (x7 - x7 / (6 : Int32) * (6 : Int32))] (mk vi vl) (fun r N' => wp X (d + 1) k_M_odds 0 0 114 [some (.ref 95), some (.int x1), some (.int x2), some (.int x3), some (.int x4), some (.int x5), some (.int x6), some (.int x7), some (.int x8)] (pR r []) N' post)) : wp X (d + 1) k_M_odds 0 0 103 [some (.ref 95), some (.int x1), some (.int x2), some (.int x3), some (.int x4), some (.int x5), some (.int x6), some (.int x7), some (.int x8)] [] (mk vi vl) post :=
  wr_aload_n (q := 0) (by decide +kernel) rfl rfl <|
  wr_iload (i := 8) (by decide +kernel) rfl <|
  wr_iload (i := 7) (by decide +kernel) rfl <|
  wr_bipush (n := 6) (v := (6 : Int32)) (by decide +kernel) (by decide) <|
  wr_irem (by decide +kernel) (by decide) <|
  wr_invV (a := 95) (ci := 4) (mid2 := 160) (idx := 174) (b1 := 0) (b2 := 0) (c1 := 0) (c2 := 0) (as := [.int x8, .int (x7 - x7 / (6 : Int32) * (6 : Int32))]) (st := []) pl_160 rfl (Nat.le_of_ble_eq_true rfl) rfl rfl lq_95 sq_95 (by decide) rfl lm_M_174 im_160 is_160 (by decide +kernel) k1
theorem b_M_odds_114 {X : aX} {d : Nat} {post : aO} {vi : Nat → Nat → Int32} {vl : Nat → Nat → Int64} {x1 x2 x3 x4 x5 x6 x7 x8 : Int32} (k1 : wp X (d + 1) k_M_odds 0 0 121 [some (.ref 95), some (.int x1), some (.int x2), some (.int x3), some (.int x4), some (.int x5), some (.int x6), some (.int (x7 / (6 : Int32))), some (.int x8)] [] (mk vi vl) post) : wp X (d + 1) k_M_odds 0 0 114 [some (.ref 95), some (.int x1), some (.int x2), some (.int x3), some (.int x4), some (.int x5), some (.int x6), some (.int x7), some (.int x8)] [] (mk vi vl) post :=
  wr_iload (i := 7) (by decide +kernel) rfl <|
  wr_bipush (n := 6) (v := (6 : Int32)) (by decide +kernel) (by decide) <|
  wr_idiv (by decide +kernel) (by decide) <|
  wr_istore (i := 7) (by decide +kernel) (by decide) <|
  k1
theorem b_M_odds_121 {X : aX} {d : Nat} {post : aO} {vi : Nat → Nat → Int32} {vl : Nat → Nat → Int64} {x1 x2 x3 x4 x5 x6 x7 x8 : Int32} (k1 : wp X (d + 1) k_M_odds 0 0 73 [some (.ref 95), some (.int x1), some (.int x2), some (.int x3), some (.int x4), some (.int x5), some (.int x6), some (.int x7), some (.int (x8 + (1 : Int32)))] [] (mk vi vl) post) : wp X (d + 1) k_M_odds 0 0 121 [some (.ref 95), some (.int x1), some (.int x2), some (.int x3), some (.int x4), some (.int x5), some (.int x6), some (.int x7), some (.int x8)] [] (mk vi vl) post :=
  wr_iinc (i := 8) (n := 1) (v := (1 : Int32)) (by decide +kernel) rfl (by decide) (by decide) <|
  wr_goto (off := -51) (t := 73) (by decide +kernel) (by decide) k1
theorem b_M_odds_127 {X : aX} {d : Nat} {post : aO} {vi : Nat → Nat → Int32} {vl : Nat → Nat → Int64} {x1 x2 x3 x4 x5 x6 x7 x8 : Int32} (k1 : CallOk X d 0 0 k_M_plays [.ref 95] (mk vi vl) (fun r N' => wp X (d + 1) k_M_odds 0 0 131 [some (.ref 95), some (.int x1), some (.int x2), some (.int x3), some (.int x4), some (.int x5), some (.int x6), some (.int x7), some (.int x8)] (pR r []) N' post)) : wp X (d + 1) k_M_odds 0 0 127 [some (.ref 95), some (.int x1), some (.int x2), some (.int x3), some (.int x4), some (.int x5), some (.int x6), some (.int x7), some (.int x8)] [] (mk vi vl) post :=
  wr_aload_n (q := 0) (by decide +kernel) rfl rfl <|
  wr_invV (a := 95) (ci := 4) (mid2 := 144) (idx := 145) (b1 := 0) (b2 := 0) (c1 := 0) (c2 := 0) (as := []) (st := []) pl_144 rfl (Nat.le_of_ble_eq_true rfl) rfl rfl lq_95 sq_95 (by decide) rfl lm_M_145 im_144 is_144 (by decide +kernel) k1
theorem b_M_odds_131 {X : aX} {d : Nat} {post : aO} {vi : Nat → Nat → Int32} {vl : Nat → Nat → Int64} {x1 x2 x3 x4 x5 x6 x7 x8 : Int32} (q1 : vp_in x2 5) (k1 : ¬ (vi 104 x2.toNatClampNeg) = x1 → wp X (d + 1) k_M_odds 0 0 147 [some (.ref 95), some (.int x1), some (.int x2), some (.int x3), some (.int x4), some (.int x5), some (.int x6), some (.int x7), some (.int x8)] [.int x5] (mk vi vl) post) (k2 : (vi 104 x2.toNatClampNeg) = x1 → wp X (d + 1) k_M_odds 0 0 143 [some (.ref 95), some (.int x1), some (.int x2), some (.int x3), some (.int x4), some (.int x5), some (.int x6), some (.int x7), some (.int x8)] [.int x5] (mk vi vl) post) : wp X (d + 1) k_M_odds 0 0 131 [some (.ref 95), some (.int x1), some (.int x2), some (.int x3), some (.int x4), some (.int x5), some (.int x6), some (.int x7), some (.int x8)] [] (mk vi vl) post :=
  wr_iload (i := 5) (by decide +kernel) rfl <|
  wr_aload_n (q := 0) (by decide +kernel) rfl rfl <|
  wr_getR2 (b := 104) (ci := 4) (k0 := 14) (idx := 38) lq_95 sq_95 (by decide) (by decide) lf_M_38 rfl vq_95_14 lq_104 (by decide +kernel) <|
  wr_iload_n (q := 2) (by decide +kernel) rfl rfl <|
  wr_iald lq_104 sq_104 q1 (by decide +kernel) <|
  wr_iload_n (q := 1) (by decide +kernel) rfl rfl <|
  wr_icmp_ne (off := 7) (t := 147) (by decide +kernel) (by decide) k1 k2
theorem b_M_odds_143 {X : aX} {d : Nat} {post : aO} {vi : Nat → Nat → Int32} {vl : Nat → Nat → Int64} {x1 x2 x3 x4 x5 x6 x7 x8 y0 : Int32} (k1 : wp X (d + 1) k_M_odds 0 0 148 [some (.ref 95), some (.int x1), some (.int x2), some (.int x3), some (.int x4), some (.int x5), some (.int x6), some (.int x7), some (.int x8)] [.int (1 : Int32), .int y0] (mk vi vl) post) : wp X (d + 1) k_M_odds 0 0 143 [some (.ref 95), some (.int x1), some (.int x2), some (.int x3), some (.int x4), some (.int x5), some (.int x6), some (.int x7), some (.int x8)] [.int y0] (mk vi vl) post :=
  wr_iconst (n := 1) (v := (1 : Int32)) (by decide +kernel) (by decide) <|
  wr_goto (off := 4) (t := 148) (by decide +kernel) (by decide) k1
theorem b_M_odds_147 {X : aX} {d : Nat} {post : aO} {vi : Nat → Nat → Int32} {vl : Nat → Nat → Int64} {x1 x2 x3 x4 x5 x6 x7 x8 y0 : Int32} (k1 : wp X (d + 1) k_M_odds 0 0 148 [some (.ref 95), some (.int x1), some (.int x2), some (.int x3), some (.int x4), some (.int x5), some (.int x6), some (.int x7), some (.int x8)] [.int (0 : Int32), .int y0] (mk vi vl) post) : wp X (d + 1) k_M_odds 0 0 147 [some (.ref 95), some (.int x1), some (.int x2), some (.int x3), some (.int x4), some (.int x5), some (.int x6), some (.int x7), some (.int x8)] [.int y0] (mk vi vl) post :=
  wr_iconst (n := 0) (v := (0 : Int32)) (by decide +kernel) (by decide) <|
  k1
theorem b_M_odds_148 {X : aX} {d : Nat} {post : aO} {vi : Nat → Nat → Int32} {vl : Nat → Nat → Int64} {x1 x2 x3 x4 x5 x6 x7 x8 y0 y1 : Int32} (k1 : CallOk X d 0 0 k_M_putsBack [.ref 95] (mk vi vl) (fun r N' => wp X (d + 1) k_M_odds 0 0 155 [some (.ref 95), some (.int x1), some (.int x2), some (.int x3), some (.int x4), some (.int (y0 + y1)), some (.int x6), some (.int x7), some (.int x8)] (pR r []) N' post)) : wp X (d + 1) k_M_odds 0 0 148 [some (.ref 95), some (.int x1), some (.int x2), some (.int x3), some (.int x4), some (.int x5), some (.int x6), some (.int x7), some (.int x8)] [.int y1, .int y0] (mk vi vl) post :=
  wr_iadd (by decide +kernel) <|
  wr_istore (i := 5) (by decide +kernel) (by decide) <|
  wr_aload_n (q := 0) (by decide +kernel) rfl rfl <|
  wr_invV (a := 95) (ci := 4) (mid2 := 172) (idx := 187) (b1 := 0) (b2 := 0) (c1 := 0) (c2 := 0) (as := []) (st := []) pl_172 rfl (Nat.le_of_ble_eq_true rfl) rfl rfl lq_95 sq_95 (by decide) rfl lm_M_187 im_172 is_172 (by decide +kernel) k1
theorem b_M_odds_155 {X : aX} {d : Nat} {post : aO} {vi : Nat → Nat → Int32} {vl : Nat → Nat → Int64} {x1 x2 x3 x4 x5 x6 x7 x8 : Int32} (k1 : wp X (d + 1) k_M_odds 0 0 60 [some (.ref 95), some (.int x1), some (.int x2), some (.int x3), some (.int x4), some (.int x5), some (.int (x6 + (1 : Int32))), some (.int x7), some (.int x8)] [] (mk vi vl) post) : wp X (d + 1) k_M_odds 0 0 155 [some (.ref 95), some (.int x1), some (.int x2), some (.int x3), some (.int x4), some (.int x5), some (.int x6), some (.int x7), some (.int x8)] [] (mk vi vl) post :=
  wr_iinc (i := 6) (n := 1) (v := (1 : Int32)) (by decide +kernel) rfl (by decide) (by decide) <|
  wr_goto (off := -98) (t := 60) (by decide +kernel) (by decide) k1
theorem b_M_odds_161 {X : aX} {d : Nat} {post : aO} {vi : Nat → Nat → Int32} {vl : Nat → Nat → Int64} {x1 x2 x3 x4 x5 x6 : Int32} {o7 o8 : Option Value} (k1 : CallOk X d 0 0 k_M_chance [.ref 95, .int x5, .int x3] (mk vi vl) (fun r N' => wp X (d + 1) k_M_odds 0 0 168 [some (.ref 95), some (.int x1), some (.int x2), some (.int x3), some (.int x4), some (.int x5), some (.int x6), o7, o8] (pR r []) N' post)) : wp X (d + 1) k_M_odds 0 0 161 [some (.ref 95), some (.int x1), some (.int x2), some (.int x3), some (.int x4), some (.int x5), some (.int x6), o7, o8] [] (mk vi vl) post :=
  wr_aload_n (q := 0) (by decide +kernel) rfl rfl <|
  wr_iload (i := 5) (by decide +kernel) rfl <|
  wr_iload_n (q := 3) (by decide +kernel) rfl rfl <|
  wr_invV (a := 95) (ci := 4) (mid2 := 191) (idx := 223) (b1 := 0) (b2 := 0) (c1 := 0) (c2 := 0) (as := [.int x5, .int x3]) (st := []) pl_191 rfl (Nat.le_of_ble_eq_true rfl) rfl rfl lq_95 sq_95 (by decide) rfl lm_M_223 im_191 is_191 (by decide +kernel) k1
theorem b_M_odds_168 {X : aX} {d : Nat} {post : aO} {vi : Nat → Nat → Int32} {vl : Nat → Nat → Int64} {x1 x2 x3 x4 x5 x6 y0 : Int32} {o7 o8 : Option Value} (k1 : post (some (.int y0)) (mk vi vl)) : wp X (d + 1) k_M_odds 0 0 168 [some (.ref 95), some (.int x1), some (.int x2), some (.int x3), some (.int x4), some (.int x5), some (.int x6), o7, o8] [.int y0] (mk vi vl) post :=
  wr_ret (r := some (.int y0)) (Or.inr (Or.inl ⟨_, rfl, (by decide +kernel), (Or.inl rfl)⟩)) k1
theorem b_M_chance_0 {X : aX} {d : Nat} {post : aO} {vi : Nat → Nat → Int32} {vl : Nat → Nat → Int64} {x1 x2 : Int32} (k1 : wp X (d + 1) k_M_chance 0 0 5 [some (.ref 95), some (.int x1), some (.int x2), some (.int x1), some (.int x2), none] [] (mk vi vl) post) : wp X (d + 1) k_M_chance 0 0 0 [some (.ref 95), some (.int x1), some (.int x2), none, none, none] [] (mk vi vl) post :=
  wr_iload_n (q := 1) (by decide +kernel) rfl rfl <|
  wr_istore_n (q := 3) (by decide +kernel) rfl (by decide) <|
  wr_iload_n (q := 2) (by decide +kernel) rfl rfl <|
  wr_istore (i := 4) (by decide +kernel) (by decide) <|
  k1
theorem b_M_chance_5 {X : aX} {d : Nat} {post : aO} {vi : Nat → Nat → Int32} {vl : Nat → Nat → Int64} {x1 x2 x3 x4 : Int32} {o5 : Option Value} (k1 : x4 = 0 → wp X (d + 1) k_M_chance 0 0 26 [some (.ref 95), some (.int x1), some (.int x2), some (.int x3), some (.int x4), o5] [] (mk vi vl) post) (k2 : ¬ x4 = 0 → wp X (d + 1) k_M_chance 0 0 10 [some (.ref 95), some (.int x1), some (.int x2), some (.int x3), some (.int x4), o5] [] (mk vi vl) post) : wp X (d + 1) k_M_chance 0 0 5 [some (.ref 95), some (.int x1), some (.int x2), some (.int x3), some (.int x4), o5] [] (mk vi vl) post :=
  wr_iload (i := 4) (by decide +kernel) rfl <|
  wr_if_eq (off := 19) (t := 26) (by decide +kernel) (by decide) k1 k2
theorem b_M_chance_10 {X : aX} {d : Nat} {post : aO} {vi : Nat → Nat → Int32} {vl : Nat → Nat → Int64} {x1 x2 x3 x4 : Int32} {o5 : Option Value} (q1 : ¬ x4 = 0) (k1 : wp X (d + 1) k_M_chance 0 0 5 [some (.ref 95), some (.int x1), some (.int x2), some (.int x4), some (.int (x3 - x3 / x4 * x4)), some (.int (x3 - x3 / x4 * x4))] [] (mk vi vl) post) : wp X (d + 1) k_M_chance 0 0 10 [some (.ref 95), some (.int x1), some (.int x2), some (.int x3), some (.int x4), o5] [] (mk vi vl) post :=
  wr_iload_n (q := 3) (by decide +kernel) rfl rfl <|
  wr_iload (i := 4) (by decide +kernel) rfl <|
  wr_irem (by decide +kernel) q1 <|
  wr_istore (i := 5) (by decide +kernel) (by decide) <|
  wr_iload (i := 4) (by decide +kernel) rfl <|
  wr_istore_n (q := 3) (by decide +kernel) rfl (by decide) <|
  wr_iload (i := 5) (by decide +kernel) rfl <|
  wr_istore (i := 4) (by decide +kernel) (by decide) <|
  wr_goto (off := -18) (t := 5) (by decide +kernel) (by decide) k1
theorem b_M_chance_26 {X : aX} {d : Nat} {post : aO} {vi : Nat → Nat → Int32} {vl : Nat → Nat → Int64} {x1 x2 x3 x4 : Int32} {o5 : Option Value} (q1 : ¬ x3 = 0) (k1 : ∀ w, w = up2 vl 95 11 ((x1 / x3).toInt64) → wp X (d + 1) k_M_chance 0 0 34 [some (.ref 95), some (.int x1), some (.int x2), some (.int x3), some (.int x4), o5] [] (mk vi w) post) : wp X (d + 1) k_M_chance 0 0 26 [some (.ref 95), some (.int x1), some (.int x2), some (.int x3), some (.int x4), o5] [] (mk vi vl) post :=
  wr_aload_n (q := 0) (by decide +kernel) rfl rfl <|
  wr_iload_n (q := 1) (by decide +kernel) rfl rfl <|
  wr_iload_n (q := 3) (by decide +kernel) rfl rfl <|
  wr_idiv (by decide +kernel) q1 <|
  wr_i2l (by decide +kernel) <|
  wr_putL (ci := 4) (k0 := 11) (idx := 209) lq_95 sq_95 (by decide) (by decide) lf_M_209 rfl (by decide +kernel) <|
  k1 _ rfl
theorem b_M_chance_34 {X : aX} {d : Nat} {post : aO} {vi : Nat → Nat → Int32} {vl : Nat → Nat → Int64} {x1 x2 x3 x4 : Int32} {o5 : Option Value} (q1 : ¬ x3 = 0) (k1 : ∀ w, w = up2 vl 95 12 ((x2 / x3).toInt64) → wp X (d + 1) k_M_chance 0 0 42 [some (.ref 95), some (.int x1), some (.int x2), some (.int x3), some (.int x4), o5] [] (mk vi w) post) : wp X (d + 1) k_M_chance 0 0 34 [some (.ref 95), some (.int x1), some (.int x2), some (.int x3), some (.int x4), o5] [] (mk vi vl) post :=
  wr_aload_n (q := 0) (by decide +kernel) rfl rfl <|
  wr_iload_n (q := 2) (by decide +kernel) rfl rfl <|
  wr_iload_n (q := 3) (by decide +kernel) rfl rfl <|
  wr_idiv (by decide +kernel) q1 <|
  wr_i2l (by decide +kernel) <|
  wr_putL (ci := 4) (k0 := 12) (idx := 34) lq_95 sq_95 (by decide) (by decide) lf_M_34 rfl (by decide +kernel) <|
  k1 _ rfl
theorem b_M_chance_42 {X : aX} {d : Nat} {post : aO} {vi : Nat → Nat → Int32} {vl : Nat → Nat → Int64} {x1 x2 x3 x4 : Int32} {o5 : Option Value} (k1 : post (some (.int (1 : Int32))) (mk vi vl)) : wp X (d + 1) k_M_chance 0 0 42 [some (.ref 95), some (.int x1), some (.int x2), some (.int x3), some (.int x4), o5] [] (mk vi vl) post :=
  wr_iconst (n := 1) (v := (1 : Int32)) (by decide +kernel) (by decide) <|
  wr_ret (r := some (.int (1 : Int32))) (Or.inr (Or.inl ⟨_, rfl, (by decide +kernel), (Or.inl rfl)⟩)) k1
theorem b_M_lots_0 {X : aX} {d : Nat} {post : aO} {vi : Nat → Nat → Int32} {vl : Nat → Nat → Int64} {x1 x2 : Int32} (k1 : CallOk X d 0 0 k_M_in [.long x1.toInt64, .long (1 : Int64), .long (10 : Int64)] (mk vi vl) (fun r N' => wp X (d + 1) k_M_lots 0 0 9 [some (.ref 95), some (.int x1), some (.int x2), none, none, none, none] (pR r []) N' post)) : wp X (d + 1) k_M_lots 0 0 0 [some (.ref 95), some (.int x1), some (.int x2), none, none, none, none] [] (mk vi vl) post :=
  wr_iload_n (q := 1) (by decide +kernel) rfl rfl <|
  wr_i2l (by decide +kernel) <|
  wr_lconst (n := 1) (v := (1 : Int64)) (by decide +kernel) (by decide) <|
  wr_ldc2 (i := 226) (v := (10 : Int64)) (by decide +kernel) lj_M_226 <|
  wr_invS (mid2 := 118) (idx := 59) (b1 := 0) (b2 := 0) (c1 := 0) (c2 := 0) (as := [.long x1.toInt64, .long (1 : Int64), .long (10 : Int64)]) (st := []) pl_118 rfl (Nat.le_of_ble_eq_true rfl) rfl rfl lm_M_59 it_118 (by decide +kernel) k1
theorem b_M_lots_9 {X : aX} {d : Nat} {post : aO} {vi : Nat → Nat → Int32} {vl : Nat → Nat → Int64} {x1 x2 y0 : Int32} {o3 o4 o5 o6 : Option Value} (k1 : y0 = 0 → wp X (d + 1) k_M_lots 0 0 24 [some (.ref 95), some (.int x1), some (.int x2), o3, o4, o5, o6] [] (mk vi vl) post) (k2 : ¬ y0 = 0 → wp X (d + 1) k_M_lots 0 0 12 [some (.ref 95), some (.int x1), some (.int x2), o3, o4, o5, o6] [] (mk vi vl) post) : wp X (d + 1) k_M_lots 0 0 9 [some (.ref 95), some (.int x1), some (.int x2), o3, o4, o5, o6] [.int y0] (mk vi vl) post :=
  wr_if_eq (off := 15) (t := 24) (by decide +kernel) (by decide) k1 k2
theorem b_M_lots_12 {X : aX} {d : Nat} {post : aO} {vi : Nat → Nat → Int32} {vl : Nat → Nat → Int64} {x1 x2 : Int32} {o3 o4 o5 o6 : Option Value} (k1 : CallOk X d 0 0 k_M_in [.long x2.toInt64, .long (1 : Int64), .long (2147483646 : Int64)] (mk vi vl) (fun r N' => wp X (d + 1) k_M_lots 0 0 21 [some (.ref 95), some (.int x1), some (.int x2), o3, o4, o5, o6] (pR r []) N' post)) : wp X (d + 1) k_M_lots 0 0 12 [some (.ref 95), some (.int x1), some (.int x2), o3, o4, o5, o6] [] (mk vi vl) post :=
  wr_iload_n (q := 2) (by decide +kernel) rfl rfl <|
  wr_i2l (by decide +kernel) <|
  wr_lconst (n := 1) (v := (1 : Int64)) (by decide +kernel) (by decide) <|
  wr_ldc2 (i := 228) (v := (2147483646 : Int64)) (by decide +kernel) lj_M_228 <|
  wr_invS (mid2 := 118) (idx := 59) (b1 := 0) (b2 := 0) (c1 := 0) (c2 := 0) (as := [.long x2.toInt64, .long (1 : Int64), .long (2147483646 : Int64)]) (st := []) pl_118 rfl (Nat.le_of_ble_eq_true rfl) rfl rfl lm_M_59 it_118 (by decide +kernel) k1
theorem b_M_lots_21 {X : aX} {d : Nat} {post : aO} {vi : Nat → Nat → Int32} {vl : Nat → Nat → Int64} {x1 x2 y0 : Int32} {o3 o4 o5 o6 : Option Value} (k1 : ¬ y0 = 0 → wp X (d + 1) k_M_lots 0 0 26 [some (.ref 95), some (.int x1), some (.int x2), o3, o4, o5, o6] [] (mk vi vl) post) (k2 : y0 = 0 → wp X (d + 1) k_M_lots 0 0 24 [some (.ref 95), some (.int x1), some (.int x2), o3, o4, o5, o6] [] (mk vi vl) post) : wp X (d + 1) k_M_lots 0 0 21 [some (.ref 95), some (.int x1), some (.int x2), o3, o4, o5, o6] [.int y0] (mk vi vl) post :=
  wr_if_ne (off := 5) (t := 26) (by decide +kernel) (by decide) k1 k2
theorem b_M_lots_24 {X : aX} {d : Nat} {post : aO} {vi : Nat → Nat → Int32} {vl : Nat → Nat → Int64} {x1 x2 : Int32} {o3 o4 o5 o6 : Option Value} (k1 : post (some (.int (-1 : Int32))) (mk vi vl)) : wp X (d + 1) k_M_lots 0 0 24 [some (.ref 95), some (.int x1), some (.int x2), o3, o4, o5, o6] [] (mk vi vl) post :=
  wr_iconst (n := -1) (v := (-1 : Int32)) (by decide +kernel) (by decide) <|
  wr_ret (r := some (.int (-1 : Int32))) (Or.inr (Or.inl ⟨_, rfl, (by decide +kernel), (Or.inl rfl)⟩)) k1
theorem b_M_lots_26 {X : aX} {d : Nat} {post : aO} {vi : Nat → Nat → Int32} {vl : Nat → Nat → Int64} {x1 x2 : Int32} {o3 o4 o5 o6 : Option Value} (k1 : ¬ (vi 96 0) = 0 → wp X (d + 1) k_M_lots 0 0 38 [some (.ref 95), some (.int x1), some (.int x2), o3, o4, o5, o6] [] (mk vi vl) post) (k2 : (vi 96 0) = 0 → wp X (d + 1) k_M_lots 0 0 35 [some (.ref 95), some (.int x1), some (.int x2), o3, o4, o5, o6] [] (mk vi vl) post) : wp X (d + 1) k_M_lots 0 0 26 [some (.ref 95), some (.int x1), some (.int x2), o3, o4, o5, o6] [] (mk vi vl) post :=
  wr_aload_n (q := 0) (by decide +kernel) rfl rfl <|
  wr_getR2 (b := 96) (ci := 4) (k0 := 0) (idx := 7) lq_95 sq_95 (by decide) (by decide) lf_M_7 rfl vq_95_0 lq_96 (by decide +kernel) <|
  wr_iconst (n := 0) (v := (0 : Int32)) (by decide +kernel) (by decide) <|
  wr_iald lq_96 sq_96 (by unfold vp_in; decide) (by decide +kernel) <|
  wr_if_ne (off := 6) (t := 38) (by decide +kernel) (by decide) k1 k2
theorem b_M_lots_35 {X : aX} {d : Nat} {post : aO} {vi : Nat → Nat → Int32} {vl : Nat → Nat → Int64} {x1 x2 : Int32} {o3 o4 o5 o6 : Option Value} (k1 : post (some (.int (-4 : Int32))) (mk vi vl)) : wp X (d + 1) k_M_lots 0 0 35 [some (.ref 95), some (.int x1), some (.int x2), o3, o4, o5, o6] [] (mk vi vl) post :=
  wr_bipush (n := -4) (v := (-4 : Int32)) (by decide +kernel) (by decide) <|
  wr_ret (r := some (.int (-4 : Int32))) (Or.inr (Or.inl ⟨_, rfl, (by decide +kernel), (Or.inl rfl)⟩)) k1
theorem b_M_lots_38 {X : aX} {d : Nat} {post : aO} {vi : Nat → Nat → Int32} {vl : Nat → Nat → Int64} {x1 x2 : Int32} {o3 o4 o5 o6 : Option Value} (k1 : ((vi 95 1) + x1) ≤ (40 : Int32) → wp X (d + 1) k_M_lots 0 0 52 [some (.ref 95), some (.int x1), some (.int x2), o3, o4, o5, o6] [] (mk vi vl) post) (k2 : ¬ ((vi 95 1) + x1) ≤ (40 : Int32) → wp X (d + 1) k_M_lots 0 0 49 [some (.ref 95), some (.int x1), some (.int x2), o3, o4, o5, o6] [] (mk vi vl) post) : wp X (d + 1) k_M_lots 0 0 38 [some (.ref 95), some (.int x1), some (.int x2), o3, o4, o5, o6] [] (mk vi vl) post :=
  wr_aload_n (q := 0) (by decide +kernel) rfl rfl <|
  wr_getI (ci := 4) (k0 := 1) (idx := 127) lq_95 sq_95 (by decide) (by decide) lf_M_127 (Or.inl rfl) (by decide +kernel) <|
  wr_iload_n (q := 1) (by decide +kernel) rfl rfl <|
  wr_iadd (by decide +kernel) <|
  wr_bipush (n := 40) (v := (40 : Int32)) (by decide +kernel) (by decide) <|
  wr_icmp_le (off := 6) (t := 52) (by decide +kernel) (by decide) k1 k2
theorem b_M_lots_49 {X : aX} {d : Nat} {post : aO} {vi : Nat → Nat → Int32} {vl : Nat → Nat → Int64} {x1 x2 : Int32} {o3 o4 o5 o6 : Option Value} (k1 : post (some (.int (-2 : Int32))) (mk vi vl)) : wp X (d + 1) k_M_lots 0 0 49 [some (.ref 95), some (.int x1), some (.int x2), o3, o4, o5, o6] [] (mk vi vl) post :=
  wr_bipush (n := -2) (v := (-2 : Int32)) (by decide +kernel) (by decide) <|
  wr_ret (r := some (.int (-2 : Int32))) (Or.inr (Or.inl ⟨_, rfl, (by decide +kernel), (Or.inl rfl)⟩)) k1
theorem b_M_lots_52 {X : aX} {d : Nat} {post : aO} {vi : Nat → Nat → Int32} {vl : Nat → Nat → Int64} {x1 x2 : Int32} {o3 o4 o5 o6 : Option Value} (k1 : wp X (d + 1) k_M_lots 0 0 58 [some (.ref 95), some (.int x1), some (.int x2), some (.long x2.toInt64), none, some (.int (0 : Int32)), o6] [] (mk vi vl) post) : wp X (d + 1) k_M_lots 0 0 52 [some (.ref 95), some (.int x1), some (.int x2), o3, o4, o5, o6] [] (mk vi vl) post :=
  wr_iload_n (q := 2) (by decide +kernel) rfl rfl <|
  wr_i2l (by decide +kernel) <|
  wr_lstore_n (q := 3) (by decide +kernel) rfl (by decide) <|
  wr_iconst (n := 0) (v := (0 : Int32)) (by decide +kernel) (by decide) <|
  wr_istore (i := 5) (by decide +kernel) (by decide) <|
  k1
theorem b_M_lots_58 {X : aX} {d : Nat} {post : aO} {vi : Nat → Nat → Int32} {vl : Nat → Nat → Int64} {x1 x2 x5 : Int32} {x3 : Int64} {o6 : Option Value} (k1 : x1 ≤ x5 → wp X (d + 1) k_M_lots 0 0 138 [some (.ref 95), some (.int x1), some (.int x2), some (.long x3), none, some (.int x5), o6] [] (mk vi vl) post) (k2 : ¬ x1 ≤ x5 → wp X (d + 1) k_M_lots 0 0 64 [some (.ref 95), some (.int x1), some (.int x2), some (.long x3), none, some (.int x5), o6] [] (mk vi vl) post) : wp X (d + 1) k_M_lots 0 0 58 [some (.ref 95), some (.int x1), some (.int x2), some (.long x3), none, some (.int x5), o6] [] (mk vi vl) post :=
  wr_iload (i := 5) (by decide +kernel) rfl <|
  wr_iload_n (q := 1) (by decide +kernel) rfl rfl <|
  wr_icmp_ge (off := 77) (t := 138) (by decide +kernel) (by decide) k1 k2
theorem b_M_lots_64 {X : aX} {d : Nat} {post : aO} {vi : Nat → Nat → Int32} {vl : Nat → Nat → Int64} {x1 x2 x5 : Int32} {x3 : Int64} {o6 : Option Value} (q1 : ¬ ((vi 96 0).toInt64) = 0) (k1 : CallOk X d 0 0 k_M_minds [.ref 95] (mk vi vl) (fun r N' => wp X (d + 1) k_M_lots 0 0 90 [some (.ref 95), some (.int x1), some (.int x2), some (.long ((x3 * (48271 : Int64)) - (x3 * (48271 : Int64)) / (2147483647 : Int64) * (2147483647 : Int64))), none, some (.int x5), some (.int ((((x3 * (48271 : Int64)) - (x3 * (48271 : Int64)) / (2147483647 : Int64) * (2147483647 : Int64)) - ((x3 * (48271 : Int64)) - (x3 * (48271 : Int64)) / (2147483647 : Int64) * (2147483647 : Int64)) / ((vi 96 0).toInt64) * ((vi 96 0).toInt64)).toInt32))] (pR r []) N' post)) : wp X (d + 1) k_M_lots 0 0 64 [some (.ref 95), some (.int x1), some (.int x2), some (.long x3), none, some (.int x5), o6] [] (mk vi vl) post :=
  wr_lload_n (q := 3) (by decide +kernel) rfl rfl <|
  wr_ldc2 (i := 230) (v := (48271 : Int64)) (by decide +kernel) lj_M_230 <|
  wr_lmul (by decide +kernel) <|
  wr_ldc2 (i := 232) (v := (2147483647 : Int64)) (by decide +kernel) lj_M_232 <|
  wr_lrem (by decide +kernel) (by decide) <|
  wr_lstore_n (q := 3) (by decide +kernel) rfl (by decide) <|
  wr_lload_n (q := 3) (by decide +kernel) rfl rfl <|
  wr_aload_n (q := 0) (by decide +kernel) rfl rfl <|
  wr_getR2 (b := 96) (ci := 4) (k0 := 0) (idx := 7) lq_95 sq_95 (by decide) (by decide) lf_M_7 rfl vq_95_0 lq_96 (by decide +kernel) <|
  wr_iconst (n := 0) (v := (0 : Int32)) (by decide +kernel) (by decide) <|
  wr_iald lq_96 sq_96 (by unfold vp_in; decide) (by decide +kernel) <|
  wr_i2l (by decide +kernel) <|
  wr_lrem (by decide +kernel) q1 <|
  wr_l2i (by decide +kernel) <|
  wr_istore (i := 6) (by decide +kernel) (by decide) <|
  wr_aload_n (q := 0) (by decide +kernel) rfl rfl <|
  wr_invV (a := 95) (ci := 4) (mid2 := 159) (idx := 171) (b1 := 0) (b2 := 0) (c1 := 0) (c2 := 0) (as := []) (st := []) pl_159 rfl (Nat.le_of_ble_eq_true rfl) rfl rfl lq_95 sq_95 (by decide) rfl lm_M_171 im_159 is_159 (by decide +kernel) k1
theorem b_M_lots_90 {X : aX} {d : Nat} {post : aO} {vi : Nat → Nat → Int32} {vl : Nat → Nat → Int64} {x1 x2 x5 x6 : Int32} {x3 : Int64} (q1 : vp_in ((2 : Int32) + x6) 5976) (k1 : ¬ (vi 96 ((2 : Int32) + x6).toNatClampNeg) = (1 : Int32) → wp X (d + 1) k_M_lots 0 0 116 [some (.ref 95), some (.int x1), some (.int x2), some (.long x3), none, some (.int x5), some (.int x6)] [] (mk vi vl) post) (k2 : (vi 96 ((2 : Int32) + x6).toNatClampNeg) = (1 : Int32) → wp X (d + 1) k_M_lots 0 0 103 [some (.ref 95), some (.int x1), some (.int x2), some (.long x3), none, some (.int x5), some (.int x6)] [] (mk vi vl) post) : wp X (d + 1) k_M_lots 0 0 90 [some (.ref 95), some (.int x1), some (.int x2), some (.long x3), none, some (.int x5), some (.int x6)] [] (mk vi vl) post :=
  wr_aload_n (q := 0) (by decide +kernel) rfl rfl <|
  wr_getR2 (b := 96) (ci := 4) (k0 := 0) (idx := 7) lq_95 sq_95 (by decide) (by decide) lf_M_7 rfl vq_95_0 lq_96 (by decide +kernel) <|
  wr_iconst (n := 2) (v := (2 : Int32)) (by decide +kernel) (by decide) <|
  wr_iload (i := 6) (by decide +kernel) rfl <|
  wr_iadd (by decide +kernel) <|
  wr_iald lq_96 sq_96 q1 (by decide +kernel) <|
  wr_iconst (n := 1) (v := (1 : Int32)) (by decide +kernel) (by decide) <|
  wr_icmp_ne (off := 16) (t := 116) (by decide +kernel) (by decide) k1 k2
theorem b_M_lots_103 {X : aX} {d : Nat} {post : aO} {vi : Nat → Nat → Int32} {vl : Nat → Nat → Int64} {x1 x2 x5 x6 : Int32} {x3 : Int64} (q1 : vp_in ((2 : Int32) + x6) 5976) (k1 : ∀ w, w = up2 vi 96 ((2 : Int32) + x6).toNatClampNeg (2 : Int32) → wp X (d + 1) k_M_lots 0 0 113 [some (.ref 95), some (.int x1), some (.int x2), some (.long x3), none, some (.int x5), some (.int x6)] [] (mk w vl) post) : wp X (d + 1) k_M_lots 0 0 103 [some (.ref 95), some (.int x1), some (.int x2), some (.long x3), none, some (.int x5), some (.int x6)] [] (mk vi vl) post :=
  wr_aload_n (q := 0) (by decide +kernel) rfl rfl <|
  wr_getR2 (b := 96) (ci := 4) (k0 := 0) (idx := 7) lq_95 sq_95 (by decide) (by decide) lf_M_7 rfl vq_95_0 lq_96 (by decide +kernel) <|
  wr_iconst (n := 2) (v := (2 : Int32)) (by decide +kernel) (by decide) <|
  wr_iload (i := 6) (by decide +kernel) rfl <|
  wr_iadd (by decide +kernel) <|
  wr_iconst (n := 2) (v := (2 : Int32)) (by decide +kernel) (by decide) <|
  wr_iast lq_96 sq_96 q1 (by decide +kernel) <|
  k1 _ rfl
theorem b_M_lots_113 {X : aX} {d : Nat} {post : aO} {vi : Nat → Nat → Int32} {vl : Nat → Nat → Int64} {x1 x2 x5 x6 : Int32} {x3 : Int64} (k1 : wp X (d + 1) k_M_lots 0 0 132 [some (.ref 95), some (.int x1), some (.int x2), some (.long x3), none, some (.int x5), some (.int x6)] [] (mk vi vl) post) : wp X (d + 1) k_M_lots 0 0 113 [some (.ref 95), some (.int x1), some (.int x2), some (.long x3), none, some (.int x5), some (.int x6)] [] (mk vi vl) post :=
  wr_goto (off := 19) (t := 132) (by decide +kernel) (by decide) k1
theorem b_M_lots_116 {X : aX} {d : Nat} {post : aO} {vi : Nat → Nat → Int32} {vl : Nat → Nat → Int64} {x1 x2 x5 x6 : Int32} {x3 : Int64} (k1 : CallOk X d 0 0 k_M_sews [.ref 95, .int x6, .int (((x3 / (32 : Int64)) - (x3 / (32 : Int64)) / (5 : Int64) * (5 : Int64)).toInt32)] (mk vi vl) (fun r N' => wp X (d + 1) k_M_lots 0 0 132 [some (.ref 95), some (.int x1), some (.int x2), some (.long x3), none, some (.int x5), some (.int x6)] (pR r []) N' post)) : wp X (d + 1) k_M_lots 0 0 116 [some (.ref 95), some (.int x1), some (.int x2), some (.long x3), none, some (.int x5), some (.int x6)] [] (mk vi vl) post :=
  wr_aload_n (q := 0) (by decide +kernel) rfl rfl <|
  wr_iload (i := 6) (by decide +kernel) rfl <|
  wr_lload_n (q := 3) (by decide +kernel) rfl rfl <|
  wr_ldc2 (i := 234) (v := (32 : Int64)) (by decide +kernel) lj_M_234 <|
  wr_ldiv (by decide +kernel) (by decide) <|
  wr_ldc2 (i := 57) (v := (5 : Int64)) (by decide +kernel) lj_M_57 <|
  wr_lrem (by decide +kernel) (by decide) <|
  wr_l2i (by decide +kernel) <|
  wr_invV (a := 95) (ci := 4) (mid2 := 160) (idx := 174) (b1 := 0) (b2 := 0) (c1 := 0) (c2 := 0) (as := [.int x6, .int (((x3 / (32 : Int64)) - (x3 / (32 : Int64)) / (5 : Int64) * (5 : Int64)).toInt32)]) (st := []) pl_160 rfl (Nat.le_of_ble_eq_true rfl) rfl rfl lq_95 sq_95 (by decide) rfl lm_M_174 im_160 is_160 (by decide +kernel) k1
theorem b_M_lots_132 {X : aX} {d : Nat} {post : aO} {vi : Nat → Nat → Int32} {vl : Nat → Nat → Int64} {x1 x2 x5 x6 : Int32} {x3 : Int64} (k1 : wp X (d + 1) k_M_lots 0 0 58 [some (.ref 95), some (.int x1), some (.int x2), some (.long x3), none, some (.int (x5 + (1 : Int32))), some (.int x6)] [] (mk vi vl) post) : wp X (d + 1) k_M_lots 0 0 132 [some (.ref 95), some (.int x1), some (.int x2), some (.long x3), none, some (.int x5), some (.int x6)] [] (mk vi vl) post :=
  wr_iinc (i := 5) (n := 1) (v := (1 : Int32)) (by decide +kernel) rfl (by decide) (by decide) <|
  wr_goto (off := -77) (t := 58) (by decide +kernel) (by decide) k1
theorem b_M_lots_138 {X : aX} {d : Nat} {post : aO} {vi : Nat → Nat → Int32} {vl : Nat → Nat → Int64} {x1 x2 x5 : Int32} {x3 : Int64} {o6 : Option Value} (k1 : CallOk X d 0 0 k_M_brokenNow [.ref 95] (mk vi vl) (fun r N' => wp X (d + 1) k_M_lots 0 0 142 [some (.ref 95), some (.int x1), some (.int x2), some (.long x3), none, some (.int x5), o6] (pR r []) N' post)) : wp X (d + 1) k_M_lots 0 0 138 [some (.ref 95), some (.int x1), some (.int x2), some (.long x3), none, some (.int x5), o6] [] (mk vi vl) post :=
  wr_aload_n (q := 0) (by decide +kernel) rfl rfl <|
  wr_invV (a := 95) (ci := 4) (mid2 := 161) (idx := 177) (b1 := 0) (b2 := 0) (c1 := 0) (c2 := 0) (as := []) (st := []) pl_161 rfl (Nat.le_of_ble_eq_true rfl) rfl rfl lq_95 sq_95 (by decide) rfl lm_M_177 im_161 is_161 (by decide +kernel) k1
theorem b_M_lots_142 {X : aX} {d : Nat} {post : aO} {vi : Nat → Nat → Int32} {vl : Nat → Nat → Int64} {x1 x2 x5 y0 : Int32} {x3 : Int64} {o6 : Option Value} (k1 : CallOk X d 0 0 k_M_ones [.int y0] (mk vi vl) (fun r N' => wp X (d + 1) k_M_lots 0 0 145 [some (.ref 95), some (.int x1), some (.int x2), some (.long x3), none, some (.int x5), o6] (pR r []) N' post)) : wp X (d + 1) k_M_lots 0 0 142 [some (.ref 95), some (.int x1), some (.int x2), some (.long x3), none, some (.int x5), o6] [.int y0] (mk vi vl) post :=
  wr_invS (mid2 := 153) (idx := 142) (b1 := 0) (b2 := 0) (c1 := 0) (c2 := 0) (as := [.int y0]) (st := []) pl_153 rfl (Nat.le_of_ble_eq_true rfl) rfl rfl lm_M_142 it_153 (by decide +kernel) k1
theorem b_M_lots_145 {X : aX} {d : Nat} {post : aO} {vi : Nat → Nat → Int32} {vl : Nat → Nat → Int64} {x1 x2 x5 y0 : Int32} {x3 : Int64} {o6 : Option Value} (k1 : post (some (.int y0)) (mk vi vl)) : wp X (d + 1) k_M_lots 0 0 145 [some (.ref 95), some (.int x1), some (.int x2), some (.long x3), none, some (.int x5), o6] [.int y0] (mk vi vl) post :=
  wr_ret (r := some (.int y0)) (Or.inr (Or.inl ⟨_, rfl, (by decide +kernel), (Or.inl rfl)⟩)) k1
theorem b_M_asked_0 {X : aX} {d : Nat} {post : aO} {vi : Nat → Nat → Int32} {vl : Nat → Nat → Int64}  (k1 : post (some (.int (vi 95 10))) (mk vi vl)) : wp X (d + 1) k_M_asked 0 0 0 [some (.ref 95)] [] (mk vi vl) post :=
  wr_aload_n (q := 0) (by decide +kernel) rfl rfl <|
  wr_getI (ci := 4) (k0 := 10) (idx := 54) lq_95 sq_95 (by decide) (by decide) lf_M_54 (Or.inl rfl) (by decide +kernel) <|
  wr_ret (r := some (.int (vi 95 10))) (Or.inr (Or.inl ⟨_, rfl, (by decide +kernel), (Or.inl rfl)⟩)) k1
theorem b_M_upper_0 {X : aX} {d : Nat} {post : aO} {vi : Nat → Nat → Int32} {vl : Nat → Nat → Int64}  (k1 : post (some (.long (vl 95 11))) (mk vi vl)) : wp X (d + 1) k_M_upper 0 0 0 [some (.ref 95)] [] (mk vi vl) post :=
  wr_aload_n (q := 0) (by decide +kernel) rfl rfl <|
  wr_getL (ci := 4) (k0 := 11) (idx := 209) lq_95 sq_95 (by decide) (by decide) lf_M_209 rfl (by decide +kernel) <|
  wr_ret (r := some (.long (vl 95 11))) (Or.inr (Or.inr ⟨_, rfl, (by decide +kernel), rfl⟩)) k1
theorem b_M_lower_0 {X : aX} {d : Nat} {post : aO} {vi : Nat → Nat → Int32} {vl : Nat → Nat → Int64}  (k1 : post (some (.long (vl 95 12))) (mk vi vl)) : wp X (d + 1) k_M_lower 0 0 0 [some (.ref 95)] [] (mk vi vl) post :=
  wr_aload_n (q := 0) (by decide +kernel) rfl rfl <|
  wr_getL (ci := 4) (k0 := 12) (idx := 34) lq_95 sq_95 (by decide) (by decide) lf_M_34 rfl (by decide +kernel) <|
  wr_ret (r := some (.long (vl 95 12))) (Or.inr (Or.inr ⟨_, rfl, (by decide +kernel), rfl⟩)) k1
theorem b_M_count_0 {X : aX} {d : Nat} {post : aO} {vi : Nat → Nat → Int32} {vl : Nat → Nat → Int64} {x1 : Int32} (k1 : swk (fun t => wp X (d + 1) k_M_count 0 0 t [some (.ref 95), some (.int x1)] [] (mk vi vl) post) 125 x1 [((0 : Int32), 52), ((1 : Int32), 59), ((2 : Int32), 66), ((3 : Int32), 71), ((4 : Int32), 80), ((5 : Int32), 92), ((6 : Int32), 97), ((7 : Int32), 107), ((8 : Int32), 116)]) : wp X (d + 1) k_M_count 0 0 0 [some (.ref 95), some (.int x1)] [] (mk vi vl) post :=
  wr_iload_n (q := 1) (by decide +kernel) rfl rfl <|
  wr_tsw (dflt := 124) (lo := 0) (hi := 8) (offs := #[51, 58, 65, 70, 79, 91, 96, 106, 115]) (len := 51) (dt := 125) (ts := [((0 : Int32), 52), ((1 : Int32), 59), ((2 : Int32), 66), ((3 : Int32), 71), ((4 : Int32), 80), ((5 : Int32), 92), ((6 : Int32), 97), ((7 : Int32), 107), ((8 : Int32), 116)]) (by decide +kernel) (by decide +kernel) (by decide) (by decide) k1
theorem b_M_count_52 {X : aX} {d : Nat} {post : aO} {vi : Nat → Nat → Int32} {vl : Nat → Nat → Int64} {x1 : Int32} (k1 : post (some (.int (vi 96 0))) (mk vi vl)) : wp X (d + 1) k_M_count 0 0 52 [some (.ref 95), some (.int x1)] [] (mk vi vl) post :=
  wr_aload_n (q := 0) (by decide +kernel) rfl rfl <|
  wr_getR2 (b := 96) (ci := 4) (k0 := 0) (idx := 7) lq_95 sq_95 (by decide) (by decide) lf_M_7 rfl vq_95_0 lq_96 (by decide +kernel) <|
  wr_iconst (n := 0) (v := (0 : Int32)) (by decide +kernel) (by decide) <|
  wr_iald lq_96 sq_96 (by unfold vp_in; decide) (by decide +kernel) <|
  wr_ret (r := some (.int (vi 96 0))) (Or.inr (Or.inl ⟨_, rfl, (by decide +kernel), (Or.inl rfl)⟩)) k1
theorem b_M_count_59 {X : aX} {d : Nat} {post : aO} {vi : Nat → Nat → Int32} {vl : Nat → Nat → Int64} {x1 : Int32} (k1 : post (some (.int (vi 96 1))) (mk vi vl)) : wp X (d + 1) k_M_count 0 0 59 [some (.ref 95), some (.int x1)] [] (mk vi vl) post :=
  wr_aload_n (q := 0) (by decide +kernel) rfl rfl <|
  wr_getR2 (b := 96) (ci := 4) (k0 := 0) (idx := 7) lq_95 sq_95 (by decide) (by decide) lf_M_7 rfl vq_95_0 lq_96 (by decide +kernel) <|
  wr_iconst (n := 1) (v := (1 : Int32)) (by decide +kernel) (by decide) <|
  wr_iald lq_96 sq_96 (by unfold vp_in; decide) (by decide +kernel) <|
  wr_ret (r := some (.int (vi 96 1))) (Or.inr (Or.inl ⟨_, rfl, (by decide +kernel), (Or.inl rfl)⟩)) k1
theorem b_M_count_66 {X : aX} {d : Nat} {post : aO} {vi : Nat → Nat → Int32} {vl : Nat → Nat → Int64} {x1 : Int32} (k1 : post (some (.int (vi 95 1))) (mk vi vl)) : wp X (d + 1) k_M_count 0 0 66 [some (.ref 95), some (.int x1)] [] (mk vi vl) post :=
  wr_aload_n (q := 0) (by decide +kernel) rfl rfl <|
  wr_getI (ci := 4) (k0 := 1) (idx := 127) lq_95 sq_95 (by decide) (by decide) lf_M_127 (Or.inl rfl) (by decide +kernel) <|
  wr_ret (r := some (.int (vi 95 1))) (Or.inr (Or.inl ⟨_, rfl, (by decide +kernel), (Or.inl rfl)⟩)) k1
theorem b_M_count_71 {X : aX} {d : Nat} {post : aO} {vi : Nat → Nat → Int32} {vl : Nat → Nat → Int64} {x1 : Int32} (k1 : CallOk X d 0 0 k_M_yearsThat [.ref 95, .int (2 : Int32)] (mk vi vl) (fun r N' => wp X (d + 1) k_M_count 0 0 76 [some (.ref 95), some (.int x1)] (pR r []) N' post)) : wp X (d + 1) k_M_count 0 0 71 [some (.ref 95), some (.int x1)] [] (mk vi vl) post :=
  wr_aload_n (q := 0) (by decide +kernel) rfl rfl <|
  wr_iconst (n := 2) (v := (2 : Int32)) (by decide +kernel) (by decide) <|
  wr_invV (a := 95) (ci := 4) (mid2 := 155) (idx := 165) (b1 := 0) (b2 := 0) (c1 := 0) (c2 := 0) (as := [.int (2 : Int32)]) (st := []) pl_155 rfl (Nat.le_of_ble_eq_true rfl) rfl rfl lq_95 sq_95 (by decide) rfl lm_M_165 im_155 is_155 (by decide +kernel) k1
theorem b_M_count_76 {X : aX} {d : Nat} {post : aO} {vi : Nat → Nat → Int32} {vl : Nat → Nat → Int64} {x1 y0 : Int32} (k1 : CallOk X d 0 0 k_M_ones [.int y0] (mk vi vl) (fun r N' => wp X (d + 1) k_M_count 0 0 79 [some (.ref 95), some (.int x1)] (pR r []) N' post)) : wp X (d + 1) k_M_count 0 0 76 [some (.ref 95), some (.int x1)] [.int y0] (mk vi vl) post :=
  wr_invS (mid2 := 153) (idx := 142) (b1 := 0) (b2 := 0) (c1 := 0) (c2 := 0) (as := [.int y0]) (st := []) pl_153 rfl (Nat.le_of_ble_eq_true rfl) rfl rfl lm_M_142 it_153 (by decide +kernel) k1
theorem b_M_count_79 {X : aX} {d : Nat} {post : aO} {vi : Nat → Nat → Int32} {vl : Nat → Nat → Int64} {x1 y0 : Int32} (k1 : post (some (.int y0)) (mk vi vl)) : wp X (d + 1) k_M_count 0 0 79 [some (.ref 95), some (.int x1)] [.int y0] (mk vi vl) post :=
  wr_ret (r := some (.int y0)) (Or.inr (Or.inl ⟨_, rfl, (by decide +kernel), (Or.inl rfl)⟩)) k1
theorem b_M_count_80 {X : aX} {d : Nat} {post : aO} {vi : Nat → Nat → Int32} {vl : Nat → Nat → Int64} {x1 : Int32} (k1 : CallOk X d 0 0 k_M_plays [.ref 95] (mk vi vl) (fun r N' => wp X (d + 1) k_M_count 0 0 84 [some (.ref 95), some (.int x1)] (pR r []) N' post)) : wp X (d + 1) k_M_count 0 0 80 [some (.ref 95), some (.int x1)] [] (mk vi vl) post :=
  wr_aload_n (q := 0) (by decide +kernel) rfl rfl <|
  wr_invV (a := 95) (ci := 4) (mid2 := 144) (idx := 145) (b1 := 0) (b2 := 0) (c1 := 0) (c2 := 0) (as := []) (st := []) pl_144 rfl (Nat.le_of_ble_eq_true rfl) rfl rfl lq_95 sq_95 (by decide) rfl lm_M_145 im_144 is_144 (by decide +kernel) k1
theorem b_M_count_84 {X : aX} {d : Nat} {post : aO} {vi : Nat → Nat → Int32} {vl : Nat → Nat → Int64} {x1 : Int32} (k1 : CallOk X d 0 0 k_M_happening [.ref 95] (mk vi vl) (fun r N' => wp X (d + 1) k_M_count 0 0 88 [some (.ref 95), some (.int x1)] (pR r []) N' post)) : wp X (d + 1) k_M_count 0 0 84 [some (.ref 95), some (.int x1)] [] (mk vi vl) post :=
  wr_aload_n (q := 0) (by decide +kernel) rfl rfl <|
  wr_invV (a := 95) (ci := 4) (mid2 := 183) (idx := 214) (b1 := 0) (b2 := 0) (c1 := 0) (c2 := 0) (as := []) (st := []) pl_183 rfl (Nat.le_of_ble_eq_true rfl) rfl rfl lq_95 sq_95 (by decide) rfl lm_M_214 im_183 is_183 (by decide +kernel) k1
theorem b_M_count_88 {X : aX} {d : Nat} {post : aO} {vi : Nat → Nat → Int32} {vl : Nat → Nat → Int64} {x1 y0 : Int32} (k1 : CallOk X d 0 0 k_M_ones [.int y0] (mk vi vl) (fun r N' => wp X (d + 1) k_M_count 0 0 91 [some (.ref 95), some (.int x1)] (pR r []) N' post)) : wp X (d + 1) k_M_count 0 0 88 [some (.ref 95), some (.int x1)] [.int y0] (mk vi vl) post :=
  wr_invS (mid2 := 153) (idx := 142) (b1 := 0) (b2 := 0) (c1 := 0) (c2 := 0) (as := [.int y0]) (st := []) pl_153 rfl (Nat.le_of_ble_eq_true rfl) rfl rfl lm_M_142 it_153 (by decide +kernel) k1
theorem b_M_count_91 {X : aX} {d : Nat} {post : aO} {vi : Nat → Nat → Int32} {vl : Nat → Nat → Int64} {x1 y0 : Int32} (k1 : post (some (.int y0)) (mk vi vl)) : wp X (d + 1) k_M_count 0 0 91 [some (.ref 95), some (.int x1)] [.int y0] (mk vi vl) post :=
  wr_ret (r := some (.int y0)) (Or.inr (Or.inl ⟨_, rfl, (by decide +kernel), (Or.inl rfl)⟩)) k1
theorem b_M_count_92 {X : aX} {d : Nat} {post : aO} {vi : Nat → Nat → Int32} {vl : Nat → Nat → Int64} {x1 : Int32} (k1 : CallOk X d 0 0 k_M_barsMany [.ref 95] (mk vi vl) (fun r N' => wp X (d + 1) k_M_count 0 0 96 [some (.ref 95), some (.int x1)] (pR r []) N' post)) : wp X (d + 1) k_M_count 0 0 92 [some (.ref 95), some (.int x1)] [] (mk vi vl) post :=
  wr_aload_n (q := 0) (by decide +kernel) rfl rfl <|
  wr_invV (a := 95) (ci := 4) (mid2 := 197) (idx := 236) (b1 := 0) (b2 := 0) (c1 := 0) (c2 := 0) (as := []) (st := []) pl_197 rfl (Nat.le_of_ble_eq_true rfl) rfl rfl lq_95 sq_95 (by decide) rfl lm_M_236 im_197 is_197 (by decide +kernel) k1
theorem b_M_count_96 {X : aX} {d : Nat} {post : aO} {vi : Nat → Nat → Int32} {vl : Nat → Nat → Int64} {x1 y0 : Int32} (k1 : post (some (.int y0)) (mk vi vl)) : wp X (d + 1) k_M_count 0 0 96 [some (.ref 95), some (.int x1)] [.int y0] (mk vi vl) post :=
  wr_ret (r := some (.int y0)) (Or.inr (Or.inl ⟨_, rfl, (by decide +kernel), (Or.inl rfl)⟩)) k1
theorem b_M_count_97 {X : aX} {d : Nat} {post : aO} {vi : Nat → Nat → Int32} {vl : Nat → Nat → Int64} {x1 : Int32} (k1 : CallOk X d 0 0 k_M_thereOf [.ref 99, .int (6 : Int32)] (mk vi vl) (fun r N' => wp X (d + 1) k_M_count 0 0 106 [some (.ref 95), some (.int x1)] (pR r []) N' post)) : wp X (d + 1) k_M_count 0 0 97 [some (.ref 95), some (.int x1)] [] (mk vi vl) post :=
  wr_aload_n (q := 0) (by decide +kernel) rfl rfl <|
  wr_getR2 (b := 99) (ci := 4) (k0 := 4) (idx := 19) lq_95 sq_95 (by decide) (by decide) lf_M_19 rfl vq_95_4 lq_99 (by decide +kernel) <|
  wr_bipush (n := 6) (v := (6 : Int32)) (by decide +kernel) (by decide) <|
  wr_invS (mid2 := 198) (idx := 239) (b1 := 0) (b2 := 0) (c1 := 0) (c2 := 0) (as := [.ref 99, .int (6 : Int32)]) (st := []) pl_198 rfl (Nat.le_of_ble_eq_true rfl) rfl rfl lm_M_239 it_198 (by decide +kernel) k1
theorem b_M_count_106 {X : aX} {d : Nat} {post : aO} {vi : Nat → Nat → Int32} {vl : Nat → Nat → Int64} {x1 y0 : Int32} (k1 : post (some (.int y0)) (mk vi vl)) : wp X (d + 1) k_M_count 0 0 106 [some (.ref 95), some (.int x1)] [.int y0] (mk vi vl) post :=
  wr_ret (r := some (.int y0)) (Or.inr (Or.inl ⟨_, rfl, (by decide +kernel), (Or.inl rfl)⟩)) k1
theorem b_M_count_107 {X : aX} {d : Nat} {post : aO} {vi : Nat → Nat → Int32} {vl : Nat → Nat → Int64} {x1 : Int32} (k1 : CallOk X d 0 0 k_M_thereOf [.ref 101, .int (4 : Int32)] (mk vi vl) (fun r N' => wp X (d + 1) k_M_count 0 0 115 [some (.ref 95), some (.int x1)] (pR r []) N' post)) : wp X (d + 1) k_M_count 0 0 107 [some (.ref 95), some (.int x1)] [] (mk vi vl) post :=
  wr_aload_n (q := 0) (by decide +kernel) rfl rfl <|
  wr_getR2 (b := 101) (ci := 4) (k0 := 6) (idx := 25) lq_95 sq_95 (by decide) (by decide) lf_M_25 rfl vq_95_6 lq_101 (by decide +kernel) <|
  wr_iconst (n := 4) (v := (4 : Int32)) (by decide +kernel) (by decide) <|
  wr_invS (mid2 := 198) (idx := 239) (b1 := 0) (b2 := 0) (c1 := 0) (c2 := 0) (as := [.ref 101, .int (4 : Int32)]) (st := []) pl_198 rfl (Nat.le_of_ble_eq_true rfl) rfl rfl lm_M_239 it_198 (by decide +kernel) k1
theorem b_M_count_115 {X : aX} {d : Nat} {post : aO} {vi : Nat → Nat → Int32} {vl : Nat → Nat → Int64} {x1 y0 : Int32} (k1 : post (some (.int y0)) (mk vi vl)) : wp X (d + 1) k_M_count 0 0 115 [some (.ref 95), some (.int x1)] [.int y0] (mk vi vl) post :=
  wr_ret (r := some (.int y0)) (Or.inr (Or.inl ⟨_, rfl, (by decide +kernel), (Or.inl rfl)⟩)) k1
theorem b_M_count_116 {X : aX} {d : Nat} {post : aO} {vi : Nat → Nat → Int32} {vl : Nat → Nat → Int64} {x1 : Int32} (k1 : CallOk X d 0 0 k_M_thereOf [.ref 97, .int (3 : Int32)] (mk vi vl) (fun r N' => wp X (d + 1) k_M_count 0 0 124 [some (.ref 95), some (.int x1)] (pR r []) N' post)) : wp X (d + 1) k_M_count 0 0 116 [some (.ref 95), some (.int x1)] [] (mk vi vl) post :=
  wr_aload_n (q := 0) (by decide +kernel) rfl rfl <|
  wr_getR2 (b := 97) (ci := 4) (k0 := 2) (idx := 13) lq_95 sq_95 (by decide) (by decide) lf_M_13 rfl vq_95_2 lq_97 (by decide +kernel) <|
  wr_iconst (n := 3) (v := (3 : Int32)) (by decide +kernel) (by decide) <|
  wr_invS (mid2 := 198) (idx := 239) (b1 := 0) (b2 := 0) (c1 := 0) (c2 := 0) (as := [.ref 97, .int (3 : Int32)]) (st := []) pl_198 rfl (Nat.le_of_ble_eq_true rfl) rfl rfl lm_M_239 it_198 (by decide +kernel) k1
theorem b_M_count_124 {X : aX} {d : Nat} {post : aO} {vi : Nat → Nat → Int32} {vl : Nat → Nat → Int64} {x1 y0 : Int32} (k1 : post (some (.int y0)) (mk vi vl)) : wp X (d + 1) k_M_count 0 0 124 [some (.ref 95), some (.int x1)] [.int y0] (mk vi vl) post :=
  wr_ret (r := some (.int y0)) (Or.inr (Or.inl ⟨_, rfl, (by decide +kernel), (Or.inl rfl)⟩)) k1
theorem b_M_count_125 {X : aX} {d : Nat} {post : aO} {vi : Nat → Nat → Int32} {vl : Nat → Nat → Int64} {x1 : Int32} (k1 : post (some (.int (-1 : Int32))) (mk vi vl)) : wp X (d + 1) k_M_count 0 0 125 [some (.ref 95), some (.int x1)] [] (mk vi vl) post :=
  wr_iconst (n := -1) (v := (-1 : Int32)) (by decide +kernel) (by decide) <|
  wr_ret (r := some (.int (-1 : Int32))) (Or.inr (Or.inl ⟨_, rfl, (by decide +kernel), (Or.inl rfl)⟩)) k1
theorem b_M_barsMany_0 {X : aX} {d : Nat} {post : aO} {vi : Nat → Nat → Int32} {vl : Nat → Nat → Int64}  (k1 : wp X (d + 1) k_M_barsMany 0 0 4 [some (.ref 95), some (.int (0 : Int32)), some (.int (0 : Int32))] [] (mk vi vl) post) : wp X (d + 1) k_M_barsMany 0 0 0 [some (.ref 95), none, none] [] (mk vi vl) post :=
  wr_iconst (n := 0) (v := (0 : Int32)) (by decide +kernel) (by decide) <|
  wr_istore_n (q := 1) (by decide +kernel) rfl (by decide) <|
  wr_iconst (n := 0) (v := (0 : Int32)) (by decide +kernel) (by decide) <|
  wr_istore_n (q := 2) (by decide +kernel) rfl (by decide) <|
  k1
theorem b_M_barsMany_4 {X : aX} {d : Nat} {post : aO} {vi : Nat → Nat → Int32} {vl : Nat → Nat → Int64} {x1 x2 : Int32} (k1 : (vi 96 1) ≤ x2 → wp X (d + 1) k_M_barsMany 0 0 54 [some (.ref 95), some (.int x1), some (.int x2)] [] (mk vi vl) post) (k2 : ¬ (vi 96 1) ≤ x2 → wp X (d + 1) k_M_barsMany 0 0 14 [some (.ref 95), some (.int x1), some (.int x2)] [] (mk vi vl) post) : wp X (d + 1) k_M_barsMany 0 0 4 [some (.ref 95), some (.int x1), some (.int x2)] [] (mk vi vl) post :=
  wr_iload_n (q := 2) (by decide +kernel) rfl rfl <|
  wr_aload_n (q := 0) (by decide +kernel) rfl rfl <|
  wr_getR2 (b := 96) (ci := 4) (k0 := 0) (idx := 7) lq_95 sq_95 (by decide) (by decide) lf_M_7 rfl vq_95_0 lq_96 (by decide +kernel) <|
  wr_iconst (n := 1) (v := (1 : Int32)) (by decide +kernel) (by decide) <|
  wr_iald lq_96 sq_96 (by unfold vp_in; decide) (by decide +kernel) <|
  wr_icmp_ge (off := 43) (t := 54) (by decide +kernel) (by decide) k1 k2
theorem b_M_barsMany_14 {X : aX} {d : Nat} {post : aO} {vi : Nat → Nat → Int32} {vl : Nat → Nat → Int64} {x1 x2 : Int32} (q1 : vp_in ((12 : Int32) + x2) 5976) (k1 : (vi 96 ((12 : Int32) + x2).toNatClampNeg) = (1 : Int32) → wp X (d + 1) k_M_barsMany 0 0 41 [some (.ref 95), some (.int x1), some (.int x2)] [.int x1] (mk vi vl) post) (k2 : ¬ (vi 96 ((12 : Int32) + x2).toNatClampNeg) = (1 : Int32) → wp X (d + 1) k_M_barsMany 0 0 28 [some (.ref 95), some (.int x1), some (.int x2)] [.int x1] (mk vi vl) post) : wp X (d + 1) k_M_barsMany 0 0 14 [some (.ref 95), some (.int x1), some (.int x2)] [] (mk vi vl) post :=
  wr_iload_n (q := 1) (by decide +kernel) rfl rfl <|
  wr_aload_n (q := 0) (by decide +kernel) rfl rfl <|
  wr_getR2 (b := 96) (ci := 4) (k0 := 0) (idx := 7) lq_95 sq_95 (by decide) (by decide) lf_M_7 rfl vq_95_0 lq_96 (by decide +kernel) <|
  wr_bipush (n := 12) (v := (12 : Int32)) (by decide +kernel) (by decide) <|
  wr_iload_n (q := 2) (by decide +kernel) rfl rfl <|
  wr_iadd (by decide +kernel) <|
  wr_iald lq_96 sq_96 q1 (by decide +kernel) <|
  wr_iconst (n := 1) (v := (1 : Int32)) (by decide +kernel) (by decide) <|
  wr_icmp_eq (off := 16) (t := 41) (by decide +kernel) (by decide) k1 k2
theorem b_M_barsMany_28 {X : aX} {d : Nat} {post : aO} {vi : Nat → Nat → Int32} {vl : Nat → Nat → Int64} {x1 x2 y0 : Int32} (q1 : vp_in ((12 : Int32) + x2) 5976) (k1 : ¬ (vi 96 ((12 : Int32) + x2).toNatClampNeg) = (4 : Int32) → wp X (d + 1) k_M_barsMany 0 0 45 [some (.ref 95), some (.int x1), some (.int x2)] [.int y0] (mk vi vl) post) (k2 : (vi 96 ((12 : Int32) + x2).toNatClampNeg) = (4 : Int32) → wp X (d + 1) k_M_barsMany 0 0 41 [some (.ref 95), some (.int x1), some (.int x2)] [.int y0] (mk vi vl) post) : wp X (d + 1) k_M_barsMany 0 0 28 [some (.ref 95), some (.int x1), some (.int x2)] [.int y0] (mk vi vl) post :=
  wr_aload_n (q := 0) (by decide +kernel) rfl rfl <|
  wr_getR2 (b := 96) (ci := 4) (k0 := 0) (idx := 7) lq_95 sq_95 (by decide) (by decide) lf_M_7 rfl vq_95_0 lq_96 (by decide +kernel) <|
  wr_bipush (n := 12) (v := (12 : Int32)) (by decide +kernel) (by decide) <|
  wr_iload_n (q := 2) (by decide +kernel) rfl rfl <|
  wr_iadd (by decide +kernel) <|
  wr_iald lq_96 sq_96 q1 (by decide +kernel) <|
  wr_iconst (n := 4) (v := (4 : Int32)) (by decide +kernel) (by decide) <|
  wr_icmp_ne (off := 7) (t := 45) (by decide +kernel) (by decide) k1 k2
theorem b_M_barsMany_41 {X : aX} {d : Nat} {post : aO} {vi : Nat → Nat → Int32} {vl : Nat → Nat → Int64} {x1 x2 y0 : Int32} (k1 : wp X (d + 1) k_M_barsMany 0 0 46 [some (.ref 95), some (.int x1), some (.int x2)] [.int (1 : Int32), .int y0] (mk vi vl) post) : wp X (d + 1) k_M_barsMany 0 0 41 [some (.ref 95), some (.int x1), some (.int x2)] [.int y0] (mk vi vl) post :=
  wr_iconst (n := 1) (v := (1 : Int32)) (by decide +kernel) (by decide) <|
  wr_goto (off := 4) (t := 46) (by decide +kernel) (by decide) k1
theorem b_M_barsMany_45 {X : aX} {d : Nat} {post : aO} {vi : Nat → Nat → Int32} {vl : Nat → Nat → Int64} {x1 x2 y0 : Int32} (k1 : wp X (d + 1) k_M_barsMany 0 0 46 [some (.ref 95), some (.int x1), some (.int x2)] [.int (0 : Int32), .int y0] (mk vi vl) post) : wp X (d + 1) k_M_barsMany 0 0 45 [some (.ref 95), some (.int x1), some (.int x2)] [.int y0] (mk vi vl) post :=
  wr_iconst (n := 0) (v := (0 : Int32)) (by decide +kernel) (by decide) <|
  k1
theorem b_M_barsMany_46 {X : aX} {d : Nat} {post : aO} {vi : Nat → Nat → Int32} {vl : Nat → Nat → Int64} {x1 x2 y0 y1 : Int32} (k1 : wp X (d + 1) k_M_barsMany 0 0 4 [some (.ref 95), some (.int (y0 + y1)), some (.int (x2 + (1 : Int32)))] [] (mk vi vl) post) : wp X (d + 1) k_M_barsMany 0 0 46 [some (.ref 95), some (.int x1), some (.int x2)] [.int y1, .int y0] (mk vi vl) post :=
  wr_iadd (by decide +kernel) <|
  wr_istore_n (q := 1) (by decide +kernel) rfl (by decide) <|
  wr_iinc (i := 2) (n := 1) (v := (1 : Int32)) (by decide +kernel) rfl (by decide) (by decide) <|
  wr_goto (off := -47) (t := 4) (by decide +kernel) (by decide) k1
theorem b_M_barsMany_54 {X : aX} {d : Nat} {post : aO} {vi : Nat → Nat → Int32} {vl : Nat → Nat → Int64} {x1 x2 : Int32} (k1 : post (some (.int x1)) (mk vi vl)) : wp X (d + 1) k_M_barsMany 0 0 54 [some (.ref 95), some (.int x1), some (.int x2)] [] (mk vi vl) post :=
  wr_iload_n (q := 1) (by decide +kernel) rfl rfl <|
  wr_ret (r := some (.int x1)) (Or.inr (Or.inl ⟨_, rfl, (by decide +kernel), (Or.inl rfl)⟩)) k1
theorem b_M_thereOf_0 {X : aX} {d : Nat} {post : aO} {vi : Nat → Nat → Int32} {vl : Nat → Nat → Int64} {v0 : Nat} {x1 : Int32} (k1 : wp X (d + 1) k_M_thereOf 0 0 4 [some (.ref v0), some (.int x1), some (.int (0 : Int32)), some (.int (0 : Int32))] [] (mk vi vl) post) : wp X (d + 1) k_M_thereOf 0 0 0 [some (.ref v0), some (.int x1), none, none] [] (mk vi vl) post :=
  wr_iconst (n := 0) (v := (0 : Int32)) (by decide +kernel) (by decide) <|
  wr_istore_n (q := 2) (by decide +kernel) rfl (by decide) <|
  wr_iconst (n := 0) (v := (0 : Int32)) (by decide +kernel) (by decide) <|
  wr_istore_n (q := 3) (by decide +kernel) rfl (by decide) <|
  k1
theorem b_M_thereOf_4 {X : aX} {d : Nat} {post : aO} {vi : Nat → Nat → Int32} {vl : Nat → Nat → Int64} {v0 : Nat} {x1 x2 x3 : Int32} (k1 : x1 ≤ x3 → wp X (d + 1) k_M_thereOf 0 0 29 [some (.ref v0), some (.int x1), some (.int x2), some (.int x3)] [] (mk vi vl) post) (k2 : ¬ x1 ≤ x3 → wp X (d + 1) k_M_thereOf 0 0 9 [some (.ref v0), some (.int x1), some (.int x2), some (.int x3)] [] (mk vi vl) post) : wp X (d + 1) k_M_thereOf 0 0 4 [some (.ref v0), some (.int x1), some (.int x2), some (.int x3)] [] (mk vi vl) post :=
  wr_iload_n (q := 3) (by decide +kernel) rfl rfl <|
  wr_iload_n (q := 1) (by decide +kernel) rfl rfl <|
  wr_icmp_ge (off := 23) (t := 29) (by decide +kernel) (by decide) k1 k2
theorem b_M_thereOf_9 {X : aX} {d : Nat} {post : aO} {vi : Nat → Nat → Int32} {vl : Nat → Nat → Int64} {v0 v0n : Nat} {x1 x2 x3 : Int32} (hav0 : v0 < 107) (hsv0 : sh0 v0 = (0, v0n)) (q1 : vp_in x3 v0n) (k1 : 0 ≤ (vi v0 x3.toNatClampNeg) → wp X (d + 1) k_M_thereOf 0 0 20 [some (.ref v0), some (.int x1), some (.int x2), some (.int x3)] [.int x2] (mk vi vl) post) (k2 : ¬ 0 ≤ (vi v0 x3.toNatClampNeg) → wp X (d + 1) k_M_thereOf 0 0 16 [some (.ref v0), some (.int x1), some (.int x2), some (.int x3)] [.int x2] (mk vi vl) post) : wp X (d + 1) k_M_thereOf 0 0 9 [some (.ref v0), some (.int x1), some (.int x2), some (.int x3)] [] (mk vi vl) post :=
  wr_iload_n (q := 2) (by decide +kernel) rfl rfl <|
  wr_aload_n (q := 0) (by decide +kernel) rfl rfl <|
  wr_iload_n (q := 3) (by decide +kernel) rfl rfl <|
  wr_iald hav0 hsv0 q1 (by decide +kernel) <|
  wr_if_ge (off := 7) (t := 20) (by decide +kernel) (by decide) k1 k2
theorem b_M_thereOf_16 {X : aX} {d : Nat} {post : aO} {vi : Nat → Nat → Int32} {vl : Nat → Nat → Int64} {v0 : Nat} {x1 x2 x3 y0 : Int32} (k1 : wp X (d + 1) k_M_thereOf 0 0 21 [some (.ref v0), some (.int x1), some (.int x2), some (.int x3)] [.int (0 : Int32), .int y0] (mk vi vl) post) : wp X (d + 1) k_M_thereOf 0 0 16 [some (.ref v0), some (.int x1), some (.int x2), some (.int x3)] [.int y0] (mk vi vl) post :=
  wr_iconst (n := 0) (v := (0 : Int32)) (by decide +kernel) (by decide) <|
  wr_goto (off := 4) (t := 21) (by decide +kernel) (by decide) k1
theorem b_M_thereOf_20 {X : aX} {d : Nat} {post : aO} {vi : Nat → Nat → Int32} {vl : Nat → Nat → Int64} {v0 : Nat} {x1 x2 x3 y0 : Int32} (k1 : wp X (d + 1) k_M_thereOf 0 0 21 [some (.ref v0), some (.int x1), some (.int x2), some (.int x3)] [.int (1 : Int32), .int y0] (mk vi vl) post) : wp X (d + 1) k_M_thereOf 0 0 20 [some (.ref v0), some (.int x1), some (.int x2), some (.int x3)] [.int y0] (mk vi vl) post :=
  wr_iconst (n := 1) (v := (1 : Int32)) (by decide +kernel) (by decide) <|
  k1
theorem b_M_thereOf_21 {X : aX} {d : Nat} {post : aO} {vi : Nat → Nat → Int32} {vl : Nat → Nat → Int64} {v0 : Nat} {x1 x2 x3 y0 y1 : Int32} (k1 : wp X (d + 1) k_M_thereOf 0 0 4 [some (.ref v0), some (.int x1), some (.int (y0 + y1)), some (.int (x3 + (1 : Int32)))] [] (mk vi vl) post) : wp X (d + 1) k_M_thereOf 0 0 21 [some (.ref v0), some (.int x1), some (.int x2), some (.int x3)] [.int y1, .int y0] (mk vi vl) post :=
  wr_iadd (by decide +kernel) <|
  wr_istore_n (q := 2) (by decide +kernel) rfl (by decide) <|
  wr_iinc (i := 3) (n := 1) (v := (1 : Int32)) (by decide +kernel) rfl (by decide) (by decide) <|
  wr_goto (off := -22) (t := 4) (by decide +kernel) (by decide) k1
theorem b_M_thereOf_29 {X : aX} {d : Nat} {post : aO} {vi : Nat → Nat → Int32} {vl : Nat → Nat → Int64} {v0 : Nat} {x1 x2 x3 : Int32} (k1 : post (some (.int x2)) (mk vi vl)) : wp X (d + 1) k_M_thereOf 0 0 29 [some (.ref v0), some (.int x1), some (.int x2), some (.int x3)] [] (mk vi vl) post :=
  wr_iload_n (q := 2) (by decide +kernel) rfl rfl <|
  wr_ret (r := some (.int x2)) (Or.inr (Or.inl ⟨_, rfl, (by decide +kernel), (Or.inl rfl)⟩)) k1
theorem b_M_finding_0 {X : aX} {d : Nat} {post : aO} {vi : Nat → Nat → Int32} {vl : Nat → Nat → Int64}  (k1 : post (some (.int (vi 95 8))) (mk vi vl)) : wp X (d + 1) k_M_finding 0 0 0 [some (.ref 95)] [] (mk vi vl) post :=
  wr_aload_n (q := 0) (by decide +kernel) rfl rfl <|
  wr_getI (ci := 4) (k0 := 8) (idx := 51) lq_95 sq_95 (by decide) (by decide) lf_M_51 (Or.inl rfl) (by decide +kernel) <|
  wr_ret (r := some (.int (vi 95 8))) (Or.inr (Or.inl ⟨_, rfl, (by decide +kernel), (Or.inl rfl)⟩)) k1
theorem b_M_findings_0 {X : aX} {d : Nat} {post : aO} {vi : Nat → Nat → Int32} {vl : Nat → Nat → Int64} {x1 : Int32} (k1 : CallOk X d 0 0 k_M_in [.long x1.toInt64, .long (1 : Int64), .long (5 : Int64)] (mk vi vl) (fun r N' => wp X (d + 1) k_M_findings 0 0 9 [some (.ref 95), some (.int x1)] (pR r []) N' post)) : wp X (d + 1) k_M_findings 0 0 0 [some (.ref 95), some (.int x1)] [] (mk vi vl) post :=
  wr_iload_n (q := 1) (by decide +kernel) rfl rfl <|
  wr_i2l (by decide +kernel) <|
  wr_lconst (n := 1) (v := (1 : Int64)) (by decide +kernel) (by decide) <|
  wr_ldc2 (i := 57) (v := (5 : Int64)) (by decide +kernel) lj_M_57 <|
  wr_invS (mid2 := 118) (idx := 59) (b1 := 0) (b2 := 0) (c1 := 0) (c2 := 0) (as := [.long x1.toInt64, .long (1 : Int64), .long (5 : Int64)]) (st := []) pl_118 rfl (Nat.le_of_ble_eq_true rfl) rfl rfl lm_M_59 it_118 (by decide +kernel) k1
theorem b_M_findings_9 {X : aX} {d : Nat} {post : aO} {vi : Nat → Nat → Int32} {vl : Nat → Nat → Int64} {x1 y0 : Int32} (k1 : y0 = 0 → wp X (d + 1) k_M_findings 0 0 21 [some (.ref 95), some (.int x1)] [] (mk vi vl) post) (k2 : ¬ y0 = 0 → wp X (d + 1) k_M_findings 0 0 12 [some (.ref 95), some (.int x1)] [] (mk vi vl) post) : wp X (d + 1) k_M_findings 0 0 9 [some (.ref 95), some (.int x1)] [.int y0] (mk vi vl) post :=
  wr_if_eq (off := 12) (t := 21) (by decide +kernel) (by decide) k1 k2
theorem b_M_findings_12 {X : aX} {d : Nat} {post : aO} {vi : Nat → Nat → Int32} {vl : Nat → Nat → Int64} {x1 : Int32} (q1 : vp_in x1 6) (k1 : wp X (d + 1) k_M_findings 0 0 22 [some (.ref 95), some (.int x1)] [.int (vi 103 x1.toNatClampNeg)] (mk vi vl) post) : wp X (d + 1) k_M_findings 0 0 12 [some (.ref 95), some (.int x1)] [] (mk vi vl) post :=
  wr_aload_n (q := 0) (by decide +kernel) rfl rfl <|
  wr_getR2 (b := 103) (ci := 4) (k0 := 9) (idx := 31) lq_95 sq_95 (by decide) (by decide) lf_M_31 rfl vq_95_9 lq_103 (by decide +kernel) <|
  wr_iload_n (q := 1) (by decide +kernel) rfl rfl <|
  wr_iald lq_103 sq_103 q1 (by decide +kernel) <|
  wr_goto (off := 4) (t := 22) (by decide +kernel) (by decide) k1
theorem b_M_findings_21 {X : aX} {d : Nat} {post : aO} {vi : Nat → Nat → Int32} {vl : Nat → Nat → Int64} {x1 : Int32} (k1 : wp X (d + 1) k_M_findings 0 0 22 [some (.ref 95), some (.int x1)] [.int (-1 : Int32)] (mk vi vl) post) : wp X (d + 1) k_M_findings 0 0 21 [some (.ref 95), some (.int x1)] [] (mk vi vl) post :=
  wr_iconst (n := -1) (v := (-1 : Int32)) (by decide +kernel) (by decide) <|
  k1
theorem b_M_findings_22 {X : aX} {d : Nat} {post : aO} {vi : Nat → Nat → Int32} {vl : Nat → Nat → Int64} {x1 y0 : Int32} (k1 : post (some (.int y0)) (mk vi vl)) : wp X (d + 1) k_M_findings 0 0 22 [some (.ref 95), some (.int x1)] [.int y0] (mk vi vl) post :=
  wr_ret (r := some (.int y0)) (Or.inr (Or.inl ⟨_, rfl, (by decide +kernel), (Or.inl rfl)⟩)) k1
theorem b_M_digest_0 {X : aX} {d : Nat} {post : aO} {vi : Nat → Nat → Int32} {vl : Nat → Nat → Int64}  (k1 : ∀ w, w = up2 vl 95 19 (17 : Int64) → wp X (d + 1) k_M_digest 0 0 7 [some (.ref 95), none, none] [] (mk vi w) post) : wp X (d + 1) k_M_digest 0 0 0 [some (.ref 95), none, none] [] (mk vi vl) post :=
  wr_aload_n (q := 0) (by decide +kernel) rfl rfl <|
  wr_ldc2 (i := 248) (v := (17 : Int64)) (by decide +kernel) lj_M_248 <|
  wr_putL (ci := 4) (k0 := 19) (idx := 245) lq_95 sq_95 (by decide) (by decide) lf_M_245 rfl (by decide +kernel) <|
  k1 _ rfl
theorem b_M_digest_7 {X : aX} {d : Nat} {post : aO} {vi : Nat → Nat → Int32} {vl : Nat → Nat → Int64} {o1 o2 : Option Value} (k1 : wp X (d + 1) k_M_digest 0 0 9 [some (.ref 95), some (.int (0 : Int32)), o2] [] (mk vi vl) post) : wp X (d + 1) k_M_digest 0 0 7 [some (.ref 95), o1, o2] [] (mk vi vl) post :=
  wr_iconst (n := 0) (v := (0 : Int32)) (by decide +kernel) (by decide) <|
  wr_istore_n (q := 1) (by decide +kernel) rfl (by decide) <|
  k1
theorem b_M_digest_9 {X : aX} {d : Nat} {post : aO} {vi : Nat → Nat → Int32} {vl : Nat → Nat → Int64} {x1 : Int32} {o2 : Option Value} (k1 : (9 : Int32) ≤ x1 → wp X (d + 1) k_M_digest 0 0 31 [some (.ref 95), some (.int x1), o2] [] (mk vi vl) post) (k2 : ¬ (9 : Int32) ≤ x1 → wp X (d + 1) k_M_digest 0 0 15 [some (.ref 95), some (.int x1), o2] [] (mk vi vl) post) : wp X (d + 1) k_M_digest 0 0 9 [some (.ref 95), some (.int x1), o2] [] (mk vi vl) post :=
  wr_iload_n (q := 1) (by decide +kernel) rfl rfl <|
  wr_bipush (n := 9) (v := (9 : Int32)) (by decide +kernel) (by decide) <|
  wr_icmp_ge (off := 19) (t := 31) (by decide +kernel) (by decide) k1 k2
theorem b_M_digest_15 {X : aX} {d : Nat} {post : aO} {vi : Nat → Nat → Int32} {vl : Nat → Nat → Int64} {x1 : Int32} {o2 : Option Value} (k1 : CallOk X d 0 0 k_M_count [.ref 95, .int x1] (mk vi vl) (fun r N' => wp X (d + 1) k_M_digest 0 0 21 [some (.ref 95), some (.int x1), o2] (pR r [.ref 95]) N' post)) : wp X (d + 1) k_M_digest 0 0 15 [some (.ref 95), some (.int x1), o2] [] (mk vi vl) post :=
  wr_aload_n (q := 0) (by decide +kernel) rfl rfl <|
  wr_aload_n (q := 0) (by decide +kernel) rfl rfl <|
  wr_iload_n (q := 1) (by decide +kernel) rfl rfl <|
  wr_invV (a := 95) (ci := 4) (mid2 := 196) (idx := 250) (b1 := 0) (b2 := 0) (c1 := 0) (c2 := 0) (as := [.int x1]) (st := [.ref 95]) pl_196 rfl (Nat.le_of_ble_eq_true rfl) rfl rfl lq_95 sq_95 (by decide) rfl lm_M_250 im_196 is_196 (by decide +kernel) k1
theorem b_M_digest_21 {X : aX} {d : Nat} {post : aO} {vi : Nat → Nat → Int32} {vl : Nat → Nat → Int64} {x1 y1 : Int32} {o2 : Option Value} (k1 : CallOk X d 0 0 k_M_mix [.ref 95, .long y1.toInt64] (mk vi vl) (fun r N' => wp X (d + 1) k_M_digest 0 0 25 [some (.ref 95), some (.int x1), o2] (pR r []) N' post)) : wp X (d + 1) k_M_digest 0 0 21 [some (.ref 95), some (.int x1), o2] [.int y1, .ref 95] (mk vi vl) post :=
  wr_i2l (by decide +kernel) <|
  wr_invV (a := 95) (ci := 4) (mid2 := 202) (idx := 253) (b1 := 0) (b2 := 0) (c1 := 0) (c2 := 0) (as := [.long y1.toInt64]) (st := []) pl_202 rfl (Nat.le_of_ble_eq_true rfl) rfl rfl lq_95 sq_95 (by decide) rfl lm_M_253 im_202 is_202 (by decide +kernel) k1
theorem b_M_digest_25 {X : aX} {d : Nat} {post : aO} {vi : Nat → Nat → Int32} {vl : Nat → Nat → Int64} {x1 : Int32} {o2 : Option Value} (k1 : wp X (d + 1) k_M_digest 0 0 9 [some (.ref 95), some (.int (x1 + (1 : Int32))), o2] [] (mk vi vl) post) : wp X (d + 1) k_M_digest 0 0 25 [some (.ref 95), some (.int x1), o2] [] (mk vi vl) post :=
  wr_iinc (i := 1) (n := 1) (v := (1 : Int32)) (by decide +kernel) rfl (by decide) (by decide) <|
  wr_goto (off := -19) (t := 9) (by decide +kernel) (by decide) k1
theorem b_M_digest_31 {X : aX} {d : Nat} {post : aO} {vi : Nat → Nat → Int32} {vl : Nat → Nat → Int64} {x1 : Int32} {o2 : Option Value} (k1 : CallOk X d 0 0 k_M_plays [.ref 95] (mk vi vl) (fun r N' => wp X (d + 1) k_M_digest 0 0 35 [some (.ref 95), some (.int x1), o2] (pR r []) N' post)) : wp X (d + 1) k_M_digest 0 0 31 [some (.ref 95), some (.int x1), o2] [] (mk vi vl) post :=
  wr_aload_n (q := 0) (by decide +kernel) rfl rfl <|
  wr_invV (a := 95) (ci := 4) (mid2 := 144) (idx := 145) (b1 := 0) (b2 := 0) (c1 := 0) (c2 := 0) (as := []) (st := []) pl_144 rfl (Nat.le_of_ble_eq_true rfl) rfl rfl lq_95 sq_95 (by decide) rfl lm_M_145 im_144 is_144 (by decide +kernel) k1
theorem b_M_digest_35 {X : aX} {d : Nat} {post : aO} {vi : Nat → Nat → Int32} {vl : Nat → Nat → Int64} {x1 : Int32} {o2 : Option Value} (k1 : wp X (d + 1) k_M_digest 0 0 37 [some (.ref 95), some (.int (0 : Int32)), o2] [] (mk vi vl) post) : wp X (d + 1) k_M_digest 0 0 35 [some (.ref 95), some (.int x1), o2] [] (mk vi vl) post :=
  wr_iconst (n := 0) (v := (0 : Int32)) (by decide +kernel) (by decide) <|
  wr_istore_n (q := 1) (by decide +kernel) rfl (by decide) <|
  k1
theorem b_M_digest_37 {X : aX} {d : Nat} {post : aO} {vi : Nat → Nat → Int32} {vl : Nat → Nat → Int64} {x1 : Int32} {o2 : Option Value} (k1 : (vi 96 0) ≤ x1 → wp X (d + 1) k_M_digest 0 0 77 [some (.ref 95), some (.int x1), o2] [] (mk vi vl) post) (k2 : ¬ (vi 96 0) ≤ x1 → wp X (d + 1) k_M_digest 0 0 47 [some (.ref 95), some (.int x1), o2] [] (mk vi vl) post) : wp X (d + 1) k_M_digest 0 0 37 [some (.ref 95), some (.int x1), o2] [] (mk vi vl) post :=
  wr_iload_n (q := 1) (by decide +kernel) rfl rfl <|
  wr_aload_n (q := 0) (by decide +kernel) rfl rfl <|
  wr_getR2 (b := 96) (ci := 4) (k0 := 0) (idx := 7) lq_95 sq_95 (by decide) (by decide) lf_M_7 rfl vq_95_0 lq_96 (by decide +kernel) <|
  wr_iconst (n := 0) (v := (0 : Int32)) (by decide +kernel) (by decide) <|
  wr_iald lq_96 sq_96 (by unfold vp_in; decide) (by decide +kernel) <|
  wr_icmp_ge (off := 33) (t := 77) (by decide +kernel) (by decide) k1 k2
theorem b_M_digest_47 {X : aX} {d : Nat} {post : aO} {vi : Nat → Nat → Int32} {vl : Nat → Nat → Int64} {x1 : Int32} {o2 : Option Value} (k1 : wp X (d + 1) k_M_digest 0 0 49 [some (.ref 95), some (.int x1), some (.int (0 : Int32))] [] (mk vi vl) post) : wp X (d + 1) k_M_digest 0 0 47 [some (.ref 95), some (.int x1), o2] [] (mk vi vl) post :=
  wr_iconst (n := 0) (v := (0 : Int32)) (by decide +kernel) (by decide) <|
  wr_istore_n (q := 2) (by decide +kernel) rfl (by decide) <|
  k1
theorem b_M_digest_49 {X : aX} {d : Nat} {post : aO} {vi : Nat → Nat → Int32} {vl : Nat → Nat → Int64} {x1 x2 : Int32} (k1 : (3 : Int32) ≤ x2 → wp X (d + 1) k_M_digest 0 0 71 [some (.ref 95), some (.int x1), some (.int x2)] [] (mk vi vl) post) (k2 : ¬ (3 : Int32) ≤ x2 → wp X (d + 1) k_M_digest 0 0 54 [some (.ref 95), some (.int x1), some (.int x2)] [] (mk vi vl) post) : wp X (d + 1) k_M_digest 0 0 49 [some (.ref 95), some (.int x1), some (.int x2)] [] (mk vi vl) post :=
  wr_iload_n (q := 2) (by decide +kernel) rfl rfl <|
  wr_iconst (n := 3) (v := (3 : Int32)) (by decide +kernel) (by decide) <|
  wr_icmp_ge (off := 20) (t := 71) (by decide +kernel) (by decide) k1 k2
theorem b_M_digest_54 {X : aX} {d : Nat} {post : aO} {vi : Nat → Nat → Int32} {vl : Nat → Nat → Int64} {x1 x2 : Int32} (k1 : CallOk X d 0 0 k_M_yearTells [.ref 95, .int x1, .int x2] (mk vi vl) (fun r N' => wp X (d + 1) k_M_digest 0 0 61 [some (.ref 95), some (.int x1), some (.int x2)] (pR r [.ref 95]) N' post)) : wp X (d + 1) k_M_digest 0 0 54 [some (.ref 95), some (.int x1), some (.int x2)] [] (mk vi vl) post :=
  wr_aload_n (q := 0) (by decide +kernel) rfl rfl <|
  wr_aload_n (q := 0) (by decide +kernel) rfl rfl <|
  wr_iload_n (q := 1) (by decide +kernel) rfl rfl <|
  wr_iload_n (q := 2) (by decide +kernel) rfl rfl <|
  wr_invV (a := 95) (ci := 4) (mid2 := 147) (idx := 156) (b1 := 0) (b2 := 0) (c1 := 0) (c2 := 0) (as := [.int x1, .int x2]) (st := [.ref 95]) pl_147 rfl (Nat.le_of_ble_eq_true rfl) rfl rfl lq_95 sq_95 (by decide) rfl lm_M_156 im_147 is_147 (by decide +kernel) k1
theorem b_M_digest_61 {X : aX} {d : Nat} {post : aO} {vi : Nat → Nat → Int32} {vl : Nat → Nat → Int64} {x1 x2 y1 : Int32} (k1 : CallOk X d 0 0 k_M_mix [.ref 95, .long y1.toInt64] (mk vi vl) (fun r N' => wp X (d + 1) k_M_digest 0 0 65 [some (.ref 95), some (.int x1), some (.int x2)] (pR r []) N' post)) : wp X (d + 1) k_M_digest 0 0 61 [some (.ref 95), some (.int x1), some (.int x2)] [.int y1, .ref 95] (mk vi vl) post :=
  wr_i2l (by decide +kernel) <|
  wr_invV (a := 95) (ci := 4) (mid2 := 202) (idx := 253) (b1 := 0) (b2 := 0) (c1 := 0) (c2 := 0) (as := [.long y1.toInt64]) (st := []) pl_202 rfl (Nat.le_of_ble_eq_true rfl) rfl rfl lq_95 sq_95 (by decide) rfl lm_M_253 im_202 is_202 (by decide +kernel) k1
theorem b_M_digest_65 {X : aX} {d : Nat} {post : aO} {vi : Nat → Nat → Int32} {vl : Nat → Nat → Int64} {x1 x2 : Int32} (k1 : wp X (d + 1) k_M_digest 0 0 49 [some (.ref 95), some (.int x1), some (.int (x2 + (1 : Int32)))] [] (mk vi vl) post) : wp X (d + 1) k_M_digest 0 0 65 [some (.ref 95), some (.int x1), some (.int x2)] [] (mk vi vl) post :=
  wr_iinc (i := 2) (n := 1) (v := (1 : Int32)) (by decide +kernel) rfl (by decide) (by decide) <|
  wr_goto (off := -19) (t := 49) (by decide +kernel) (by decide) k1
theorem b_M_digest_71 {X : aX} {d : Nat} {post : aO} {vi : Nat → Nat → Int32} {vl : Nat → Nat → Int64} {x1 x2 : Int32} (k1 : wp X (d + 1) k_M_digest 0 0 37 [some (.ref 95), some (.int (x1 + (1 : Int32))), some (.int x2)] [] (mk vi vl) post) : wp X (d + 1) k_M_digest 0 0 71 [some (.ref 95), some (.int x1), some (.int x2)] [] (mk vi vl) post :=
  wr_iinc (i := 1) (n := 1) (v := (1 : Int32)) (by decide +kernel) rfl (by decide) (by decide) <|
  wr_goto (off := -37) (t := 37) (by decide +kernel) (by decide) k1
theorem b_M_digest_77 {X : aX} {d : Nat} {post : aO} {vi : Nat → Nat → Int32} {vl : Nat → Nat → Int64} {x1 : Int32} {o2 : Option Value} (k1 : wp X (d + 1) k_M_digest 0 0 79 [some (.ref 95), some (.int (0 : Int32)), o2] [] (mk vi vl) post) : wp X (d + 1) k_M_digest 0 0 77 [some (.ref 95), some (.int x1), o2] [] (mk vi vl) post :=
  wr_iconst (n := 0) (v := (0 : Int32)) (by decide +kernel) (by decide) <|
  wr_istore_n (q := 1) (by decide +kernel) rfl (by decide) <|
  k1
theorem b_M_digest_79 {X : aX} {d : Nat} {post : aO} {vi : Nat → Nat → Int32} {vl : Nat → Nat → Int64} {x1 : Int32} {o2 : Option Value} (k1 : (vi 96 1) ≤ x1 → wp X (d + 1) k_M_digest 0 0 119 [some (.ref 95), some (.int x1), o2] [] (mk vi vl) post) (k2 : ¬ (vi 96 1) ≤ x1 → wp X (d + 1) k_M_digest 0 0 89 [some (.ref 95), some (.int x1), o2] [] (mk vi vl) post) : wp X (d + 1) k_M_digest 0 0 79 [some (.ref 95), some (.int x1), o2] [] (mk vi vl) post :=
  wr_iload_n (q := 1) (by decide +kernel) rfl rfl <|
  wr_aload_n (q := 0) (by decide +kernel) rfl rfl <|
  wr_getR2 (b := 96) (ci := 4) (k0 := 0) (idx := 7) lq_95 sq_95 (by decide) (by decide) lf_M_7 rfl vq_95_0 lq_96 (by decide +kernel) <|
  wr_iconst (n := 1) (v := (1 : Int32)) (by decide +kernel) (by decide) <|
  wr_iald lq_96 sq_96 (by unfold vp_in; decide) (by decide +kernel) <|
  wr_icmp_ge (off := 33) (t := 119) (by decide +kernel) (by decide) k1 k2
theorem b_M_digest_89 {X : aX} {d : Nat} {post : aO} {vi : Nat → Nat → Int32} {vl : Nat → Nat → Int64} {x1 : Int32} {o2 : Option Value} (k1 : wp X (d + 1) k_M_digest 0 0 91 [some (.ref 95), some (.int x1), some (.int (0 : Int32))] [] (mk vi vl) post) : wp X (d + 1) k_M_digest 0 0 89 [some (.ref 95), some (.int x1), o2] [] (mk vi vl) post :=
  wr_iconst (n := 0) (v := (0 : Int32)) (by decide +kernel) (by decide) <|
  wr_istore_n (q := 2) (by decide +kernel) rfl (by decide) <|
  k1
theorem b_M_digest_91 {X : aX} {d : Nat} {post : aO} {vi : Nat → Nat → Int32} {vl : Nat → Nat → Int64} {x1 x2 : Int32} (k1 : (4 : Int32) ≤ x2 → wp X (d + 1) k_M_digest 0 0 113 [some (.ref 95), some (.int x1), some (.int x2)] [] (mk vi vl) post) (k2 : ¬ (4 : Int32) ≤ x2 → wp X (d + 1) k_M_digest 0 0 96 [some (.ref 95), some (.int x1), some (.int x2)] [] (mk vi vl) post) : wp X (d + 1) k_M_digest 0 0 91 [some (.ref 95), some (.int x1), some (.int x2)] [] (mk vi vl) post :=
  wr_iload_n (q := 2) (by decide +kernel) rfl rfl <|
  wr_iconst (n := 4) (v := (4 : Int32)) (by decide +kernel) (by decide) <|
  wr_icmp_ge (off := 20) (t := 113) (by decide +kernel) (by decide) k1 k2
theorem b_M_digest_96 {X : aX} {d : Nat} {post : aO} {vi : Nat → Nat → Int32} {vl : Nat → Nat → Int64} {x1 x2 : Int32} (k1 : CallOk X d 0 0 k_M_lawTells [.ref 95, .int x1, .int x2] (mk vi vl) (fun r N' => wp X (d + 1) k_M_digest 0 0 103 [some (.ref 95), some (.int x1), some (.int x2)] (pR r [.ref 95]) N' post)) : wp X (d + 1) k_M_digest 0 0 96 [some (.ref 95), some (.int x1), some (.int x2)] [] (mk vi vl) post :=
  wr_aload_n (q := 0) (by decide +kernel) rfl rfl <|
  wr_aload_n (q := 0) (by decide +kernel) rfl rfl <|
  wr_iload_n (q := 1) (by decide +kernel) rfl rfl <|
  wr_iload_n (q := 2) (by decide +kernel) rfl rfl <|
  wr_invV (a := 95) (ci := 4) (mid2 := 150) (idx := 162) (b1 := 0) (b2 := 0) (c1 := 0) (c2 := 0) (as := [.int x1, .int x2]) (st := [.ref 95]) pl_150 rfl (Nat.le_of_ble_eq_true rfl) rfl rfl lq_95 sq_95 (by decide) rfl lm_M_162 im_150 is_150 (by decide +kernel) k1
theorem b_M_digest_103 {X : aX} {d : Nat} {post : aO} {vi : Nat → Nat → Int32} {vl : Nat → Nat → Int64} {x1 x2 y1 : Int32} (k1 : CallOk X d 0 0 k_M_mix [.ref 95, .long y1.toInt64] (mk vi vl) (fun r N' => wp X (d + 1) k_M_digest 0 0 107 [some (.ref 95), some (.int x1), some (.int x2)] (pR r []) N' post)) : wp X (d + 1) k_M_digest 0 0 103 [some (.ref 95), some (.int x1), some (.int x2)] [.int y1, .ref 95] (mk vi vl) post :=
  wr_i2l (by decide +kernel) <|
  wr_invV (a := 95) (ci := 4) (mid2 := 202) (idx := 253) (b1 := 0) (b2 := 0) (c1 := 0) (c2 := 0) (as := [.long y1.toInt64]) (st := []) pl_202 rfl (Nat.le_of_ble_eq_true rfl) rfl rfl lq_95 sq_95 (by decide) rfl lm_M_253 im_202 is_202 (by decide +kernel) k1
theorem b_M_digest_107 {X : aX} {d : Nat} {post : aO} {vi : Nat → Nat → Int32} {vl : Nat → Nat → Int64} {x1 x2 : Int32} (k1 : wp X (d + 1) k_M_digest 0 0 91 [some (.ref 95), some (.int x1), some (.int (x2 + (1 : Int32)))] [] (mk vi vl) post) : wp X (d + 1) k_M_digest 0 0 107 [some (.ref 95), some (.int x1), some (.int x2)] [] (mk vi vl) post :=
  wr_iinc (i := 2) (n := 1) (v := (1 : Int32)) (by decide +kernel) rfl (by decide) (by decide) <|
  wr_goto (off := -19) (t := 91) (by decide +kernel) (by decide) k1
theorem b_M_digest_113 {X : aX} {d : Nat} {post : aO} {vi : Nat → Nat → Int32} {vl : Nat → Nat → Int64} {x1 x2 : Int32} (k1 : wp X (d + 1) k_M_digest 0 0 79 [some (.ref 95), some (.int (x1 + (1 : Int32))), some (.int x2)] [] (mk vi vl) post) : wp X (d + 1) k_M_digest 0 0 113 [some (.ref 95), some (.int x1), some (.int x2)] [] (mk vi vl) post :=
  wr_iinc (i := 1) (n := 1) (v := (1 : Int32)) (by decide +kernel) rfl (by decide) (by decide) <|
  wr_goto (off := -37) (t := 79) (by decide +kernel) (by decide) k1
theorem b_M_digest_119 {X : aX} {d : Nat} {post : aO} {vi : Nat → Nat → Int32} {vl : Nat → Nat → Int64} {x1 : Int32} {o2 : Option Value} (k1 : wp X (d + 1) k_M_digest 0 0 121 [some (.ref 95), some (.int (0 : Int32)), o2] [] (mk vi vl) post) : wp X (d + 1) k_M_digest 0 0 119 [some (.ref 95), some (.int x1), o2] [] (mk vi vl) post :=
  wr_iconst (n := 0) (v := (0 : Int32)) (by decide +kernel) (by decide) <|
  wr_istore_n (q := 1) (by decide +kernel) rfl (by decide) <|
  k1
theorem b_M_digest_121 {X : aX} {d : Nat} {post : aO} {vi : Nat → Nat → Int32} {vl : Nat → Nat → Int64} {x1 : Int32} {o2 : Option Value} (k1 : (3 : Int32) ≤ x1 → wp X (d + 1) k_M_digest 0 0 143 [some (.ref 95), some (.int x1), o2] [] (mk vi vl) post) (k2 : ¬ (3 : Int32) ≤ x1 → wp X (d + 1) k_M_digest 0 0 126 [some (.ref 95), some (.int x1), o2] [] (mk vi vl) post) : wp X (d + 1) k_M_digest 0 0 121 [some (.ref 95), some (.int x1), o2] [] (mk vi vl) post :=
  wr_iload_n (q := 1) (by decide +kernel) rfl rfl <|
  wr_iconst (n := 3) (v := (3 : Int32)) (by decide +kernel) (by decide) <|
  wr_icmp_ge (off := 20) (t := 143) (by decide +kernel) (by decide) k1 k2
theorem b_M_digest_126 {X : aX} {d : Nat} {post : aO} {vi : Nat → Nat → Int32} {vl : Nat → Nat → Int64} {x1 : Int32} {o2 : Option Value} (q1 : vp_in x1 3) (k1 : CallOk X d 0 0 k_M_mix [.ref 95, .long ((vi 97 x1.toNatClampNeg).toInt64)] (mk vi vl) (fun r N' => wp X (d + 1) k_M_digest 0 0 137 [some (.ref 95), some (.int x1), o2] (pR r []) N' post)) : wp X (d + 1) k_M_digest 0 0 126 [some (.ref 95), some (.int x1), o2] [] (mk vi vl) post :=
  wr_aload_n (q := 0) (by decide +kernel) rfl rfl <|
  wr_aload_n (q := 0) (by decide +kernel) rfl rfl <|
  wr_getR2 (b := 97) (ci := 4) (k0 := 2) (idx := 13) lq_95 sq_95 (by decide) (by decide) lf_M_13 rfl vq_95_2 lq_97 (by decide +kernel) <|
  wr_iload_n (q := 1) (by decide +kernel) rfl rfl <|
  wr_iald lq_97 sq_97 q1 (by decide +kernel) <|
  wr_i2l (by decide +kernel) <|
  wr_invV (a := 95) (ci := 4) (mid2 := 202) (idx := 253) (b1 := 0) (b2 := 0) (c1 := 0) (c2 := 0) (as := [.long ((vi 97 x1.toNatClampNeg).toInt64)]) (st := []) pl_202 rfl (Nat.le_of_ble_eq_true rfl) rfl rfl lq_95 sq_95 (by decide) rfl lm_M_253 im_202 is_202 (by decide +kernel) k1
theorem b_M_digest_137 {X : aX} {d : Nat} {post : aO} {vi : Nat → Nat → Int32} {vl : Nat → Nat → Int64} {x1 : Int32} {o2 : Option Value} (k1 : wp X (d + 1) k_M_digest 0 0 121 [some (.ref 95), some (.int (x1 + (1 : Int32))), o2] [] (mk vi vl) post) : wp X (d + 1) k_M_digest 0 0 137 [some (.ref 95), some (.int x1), o2] [] (mk vi vl) post :=
  wr_iinc (i := 1) (n := 1) (v := (1 : Int32)) (by decide +kernel) rfl (by decide) (by decide) <|
  wr_goto (off := -19) (t := 121) (by decide +kernel) (by decide) k1
theorem b_M_digest_143 {X : aX} {d : Nat} {post : aO} {vi : Nat → Nat → Int32} {vl : Nat → Nat → Int64} {x1 : Int32} {o2 : Option Value} (k1 : wp X (d + 1) k_M_digest 0 0 145 [some (.ref 95), some (.int (0 : Int32)), o2] [] (mk vi vl) post) : wp X (d + 1) k_M_digest 0 0 143 [some (.ref 95), some (.int x1), o2] [] (mk vi vl) post :=
  wr_iconst (n := 0) (v := (0 : Int32)) (by decide +kernel) (by decide) <|
  wr_istore_n (q := 1) (by decide +kernel) rfl (by decide) <|
  k1
theorem b_M_digest_145 {X : aX} {d : Nat} {post : aO} {vi : Nat → Nat → Int32} {vl : Nat → Nat → Int64} {x1 : Int32} {o2 : Option Value} (k1 : (6 : Int32) ≤ x1 → wp X (d + 1) k_M_digest 0 0 202 [some (.ref 95), some (.int x1), o2] [] (mk vi vl) post) (k2 : ¬ (6 : Int32) ≤ x1 → wp X (d + 1) k_M_digest 0 0 151 [some (.ref 95), some (.int x1), o2] [] (mk vi vl) post) : wp X (d + 1) k_M_digest 0 0 145 [some (.ref 95), some (.int x1), o2] [] (mk vi vl) post :=
  wr_iload_n (q := 1) (by decide +kernel) rfl rfl <|
  wr_bipush (n := 6) (v := (6 : Int32)) (by decide +kernel) (by decide) <|
  wr_icmp_ge (off := 54) (t := 202) (by decide +kernel) (by decide) k1 k2
theorem b_M_digest_151 {X : aX} {d : Nat} {post : aO} {vi : Nat → Nat → Int32} {vl : Nat → Nat → Int64} {x1 : Int32} {o2 : Option Value} (q1 : vp_in x1 6) (k1 : CallOk X d 0 0 k_M_mix [.ref 95, .long ((vi 99 x1.toNatClampNeg).toInt64)] (mk vi vl) (fun r N' => wp X (d + 1) k_M_digest 0 0 162 [some (.ref 95), some (.int x1), o2] (pR r []) N' post)) : wp X (d + 1) k_M_digest 0 0 151 [some (.ref 95), some (.int x1), o2] [] (mk vi vl) post :=
  wr_aload_n (q := 0) (by decide +kernel) rfl rfl <|
  wr_aload_n (q := 0) (by decide +kernel) rfl rfl <|
  wr_getR2 (b := 99) (ci := 4) (k0 := 4) (idx := 19) lq_95 sq_95 (by decide) (by decide) lf_M_19 rfl vq_95_4 lq_99 (by decide +kernel) <|
  wr_iload_n (q := 1) (by decide +kernel) rfl rfl <|
  wr_iald lq_99 sq_99 q1 (by decide +kernel) <|
  wr_i2l (by decide +kernel) <|
  wr_invV (a := 95) (ci := 4) (mid2 := 202) (idx := 253) (b1 := 0) (b2 := 0) (c1 := 0) (c2 := 0) (as := [.long ((vi 99 x1.toNatClampNeg).toInt64)]) (st := []) pl_202 rfl (Nat.le_of_ble_eq_true rfl) rfl rfl lq_95 sq_95 (by decide) rfl lm_M_253 im_202 is_202 (by decide +kernel) k1
theorem b_M_digest_162 {X : aX} {d : Nat} {post : aO} {vi : Nat → Nat → Int32} {vl : Nat → Nat → Int64} {x1 : Int32} {o2 : Option Value} (k1 : wp X (d + 1) k_M_digest 0 0 164 [some (.ref 95), some (.int x1), some (.int (0 : Int32))] [] (mk vi vl) post) : wp X (d + 1) k_M_digest 0 0 162 [some (.ref 95), some (.int x1), o2] [] (mk vi vl) post :=
  wr_iconst (n := 0) (v := (0 : Int32)) (by decide +kernel) (by decide) <|
  wr_istore_n (q := 2) (by decide +kernel) rfl (by decide) <|
  k1
theorem b_M_digest_164 {X : aX} {d : Nat} {post : aO} {vi : Nat → Nat → Int32} {vl : Nat → Nat → Int64} {x1 x2 : Int32} (q1 : vp_in x1 6) (k1 : (vi 99 x1.toNatClampNeg) ≤ x2 → wp X (d + 1) k_M_digest 0 0 196 [some (.ref 95), some (.int x1), some (.int x2)] [] (mk vi vl) post) (k2 : ¬ (vi 99 x1.toNatClampNeg) ≤ x2 → wp X (d + 1) k_M_digest 0 0 174 [some (.ref 95), some (.int x1), some (.int x2)] [] (mk vi vl) post) : wp X (d + 1) k_M_digest 0 0 164 [some (.ref 95), some (.int x1), some (.int x2)] [] (mk vi vl) post :=
  wr_iload_n (q := 2) (by decide +kernel) rfl rfl <|
  wr_aload_n (q := 0) (by decide +kernel) rfl rfl <|
  wr_getR2 (b := 99) (ci := 4) (k0 := 4) (idx := 19) lq_95 sq_95 (by decide) (by decide) lf_M_19 rfl vq_95_4 lq_99 (by decide +kernel) <|
  wr_iload_n (q := 1) (by decide +kernel) rfl rfl <|
  wr_iald lq_99 sq_99 q1 (by decide +kernel) <|
  wr_icmp_ge (off := 25) (t := 196) (by decide +kernel) (by decide) k1 k2
theorem b_M_digest_174 {X : aX} {d : Nat} {post : aO} {vi : Nat → Nat → Int32} {vl : Nat → Nat → Int64} {x1 x2 : Int32} (q1 : vp_in (((40 : Int32) * x1) + x2) 240) (k1 : CallOk X d 0 0 k_M_mix [.ref 95, .long ((vi 98 (((40 : Int32) * x1) + x2).toNatClampNeg).toInt64)] (mk vi vl) (fun r N' => wp X (d + 1) k_M_digest 0 0 190 [some (.ref 95), some (.int x1), some (.int x2)] (pR r []) N' post)) : wp X (d + 1) k_M_digest 0 0 174 [some (.ref 95), some (.int x1), some (.int x2)] [] (mk vi vl) post :=
  wr_aload_n (q := 0) (by decide +kernel) rfl rfl <|
  wr_aload_n (q := 0) (by decide +kernel) rfl rfl <|
  wr_getR2 (b := 98) (ci := 4) (k0 := 3) (idx := 16) lq_95 sq_95 (by decide) (by decide) lf_M_16 rfl vq_95_3 lq_98 (by decide +kernel) <|
  wr_bipush (n := 40) (v := (40 : Int32)) (by decide +kernel) (by decide) <|
  wr_iload_n (q := 1) (by decide +kernel) rfl rfl <|
  wr_imul (by decide +kernel) <|
  wr_iload_n (q := 2) (by decide +kernel) rfl rfl <|
  wr_iadd (by decide +kernel) <|
  wr_iald lq_98 sq_98 q1 (by decide +kernel) <|
  wr_i2l (by decide +kernel) <|
  wr_invV (a := 95) (ci := 4) (mid2 := 202) (idx := 253) (b1 := 0) (b2 := 0) (c1 := 0) (c2 := 0) (as := [.long ((vi 98 (((40 : Int32) * x1) + x2).toNatClampNeg).toInt64)]) (st := []) pl_202 rfl (Nat.le_of_ble_eq_true rfl) rfl rfl lq_95 sq_95 (by decide) rfl lm_M_253 im_202 is_202 (by decide +kernel) k1
theorem b_M_digest_190 {X : aX} {d : Nat} {post : aO} {vi : Nat → Nat → Int32} {vl : Nat → Nat → Int64} {x1 x2 : Int32} (k1 : wp X (d + 1) k_M_digest 0 0 164 [some (.ref 95), some (.int x1), some (.int (x2 + (1 : Int32)))] [] (mk vi vl) post) : wp X (d + 1) k_M_digest 0 0 190 [some (.ref 95), some (.int x1), some (.int x2)] [] (mk vi vl) post :=
  wr_iinc (i := 2) (n := 1) (v := (1 : Int32)) (by decide +kernel) rfl (by decide) (by decide) <|
  wr_goto (off := -29) (t := 164) (by decide +kernel) (by decide) k1
theorem b_M_digest_196 {X : aX} {d : Nat} {post : aO} {vi : Nat → Nat → Int32} {vl : Nat → Nat → Int64} {x1 x2 : Int32} (k1 : wp X (d + 1) k_M_digest 0 0 145 [some (.ref 95), some (.int (x1 + (1 : Int32))), some (.int x2)] [] (mk vi vl) post) : wp X (d + 1) k_M_digest 0 0 196 [some (.ref 95), some (.int x1), some (.int x2)] [] (mk vi vl) post :=
  wr_iinc (i := 1) (n := 1) (v := (1 : Int32)) (by decide +kernel) rfl (by decide) (by decide) <|
  wr_goto (off := -54) (t := 145) (by decide +kernel) (by decide) k1
theorem b_M_digest_202 {X : aX} {d : Nat} {post : aO} {vi : Nat → Nat → Int32} {vl : Nat → Nat → Int64} {x1 : Int32} {o2 : Option Value} (k1 : wp X (d + 1) k_M_digest 0 0 204 [some (.ref 95), some (.int (0 : Int32)), o2] [] (mk vi vl) post) : wp X (d + 1) k_M_digest 0 0 202 [some (.ref 95), some (.int x1), o2] [] (mk vi vl) post :=
  wr_iconst (n := 0) (v := (0 : Int32)) (by decide +kernel) (by decide) <|
  wr_istore_n (q := 1) (by decide +kernel) rfl (by decide) <|
  k1
theorem b_M_digest_204 {X : aX} {d : Nat} {post : aO} {vi : Nat → Nat → Int32} {vl : Nat → Nat → Int64} {x1 : Int32} {o2 : Option Value} (k1 : (4 : Int32) ≤ x1 → wp X (d + 1) k_M_digest 0 0 260 [some (.ref 95), some (.int x1), o2] [] (mk vi vl) post) (k2 : ¬ (4 : Int32) ≤ x1 → wp X (d + 1) k_M_digest 0 0 209 [some (.ref 95), some (.int x1), o2] [] (mk vi vl) post) : wp X (d + 1) k_M_digest 0 0 204 [some (.ref 95), some (.int x1), o2] [] (mk vi vl) post :=
  wr_iload_n (q := 1) (by decide +kernel) rfl rfl <|
  wr_iconst (n := 4) (v := (4 : Int32)) (by decide +kernel) (by decide) <|
  wr_icmp_ge (off := 54) (t := 260) (by decide +kernel) (by decide) k1 k2
theorem b_M_digest_209 {X : aX} {d : Nat} {post : aO} {vi : Nat → Nat → Int32} {vl : Nat → Nat → Int64} {x1 : Int32} {o2 : Option Value} (q1 : vp_in x1 4) (k1 : CallOk X d 0 0 k_M_mix [.ref 95, .long ((vi 101 x1.toNatClampNeg).toInt64)] (mk vi vl) (fun r N' => wp X (d + 1) k_M_digest 0 0 220 [some (.ref 95), some (.int x1), o2] (pR r []) N' post)) : wp X (d + 1) k_M_digest 0 0 209 [some (.ref 95), some (.int x1), o2] [] (mk vi vl) post :=
  wr_aload_n (q := 0) (by decide +kernel) rfl rfl <|
  wr_aload_n (q := 0) (by decide +kernel) rfl rfl <|
  wr_getR2 (b := 101) (ci := 4) (k0 := 6) (idx := 25) lq_95 sq_95 (by decide) (by decide) lf_M_25 rfl vq_95_6 lq_101 (by decide +kernel) <|
  wr_iload_n (q := 1) (by decide +kernel) rfl rfl <|
  wr_iald lq_101 sq_101 q1 (by decide +kernel) <|
  wr_i2l (by decide +kernel) <|
  wr_invV (a := 95) (ci := 4) (mid2 := 202) (idx := 253) (b1 := 0) (b2 := 0) (c1 := 0) (c2 := 0) (as := [.long ((vi 101 x1.toNatClampNeg).toInt64)]) (st := []) pl_202 rfl (Nat.le_of_ble_eq_true rfl) rfl rfl lq_95 sq_95 (by decide) rfl lm_M_253 im_202 is_202 (by decide +kernel) k1
theorem b_M_digest_220 {X : aX} {d : Nat} {post : aO} {vi : Nat → Nat → Int32} {vl : Nat → Nat → Int64} {x1 : Int32} {o2 : Option Value} (k1 : wp X (d + 1) k_M_digest 0 0 222 [some (.ref 95), some (.int x1), some (.int (0 : Int32))] [] (mk vi vl) post) : wp X (d + 1) k_M_digest 0 0 220 [some (.ref 95), some (.int x1), o2] [] (mk vi vl) post :=
  wr_iconst (n := 0) (v := (0 : Int32)) (by decide +kernel) (by decide) <|
  wr_istore_n (q := 2) (by decide +kernel) rfl (by decide) <|
  k1
theorem b_M_digest_222 {X : aX} {d : Nat} {post : aO} {vi : Nat → Nat → Int32} {vl : Nat → Nat → Int64} {x1 x2 : Int32} (q1 : vp_in x1 4) (k1 : (vi 101 x1.toNatClampNeg) ≤ x2 → wp X (d + 1) k_M_digest 0 0 254 [some (.ref 95), some (.int x1), some (.int x2)] [] (mk vi vl) post) (k2 : ¬ (vi 101 x1.toNatClampNeg) ≤ x2 → wp X (d + 1) k_M_digest 0 0 232 [some (.ref 95), some (.int x1), some (.int x2)] [] (mk vi vl) post) : wp X (d + 1) k_M_digest 0 0 222 [some (.ref 95), some (.int x1), some (.int x2)] [] (mk vi vl) post :=
  wr_iload_n (q := 2) (by decide +kernel) rfl rfl <|
  wr_aload_n (q := 0) (by decide +kernel) rfl rfl <|
  wr_getR2 (b := 101) (ci := 4) (k0 := 6) (idx := 25) lq_95 sq_95 (by decide) (by decide) lf_M_25 rfl vq_95_6 lq_101 (by decide +kernel) <|
  wr_iload_n (q := 1) (by decide +kernel) rfl rfl <|
  wr_iald lq_101 sq_101 q1 (by decide +kernel) <|
  wr_icmp_ge (off := 25) (t := 254) (by decide +kernel) (by decide) k1 k2
theorem b_M_digest_232 {X : aX} {d : Nat} {post : aO} {vi : Nat → Nat → Int32} {vl : Nat → Nat → Int64} {x1 x2 : Int32} (q1 : vp_in (((60 : Int32) * x1) + x2) 240) (k1 : CallOk X d 0 0 k_M_mix [.ref 95, .long ((vi 100 (((60 : Int32) * x1) + x2).toNatClampNeg).toInt64)] (mk vi vl) (fun r N' => wp X (d + 1) k_M_digest 0 0 248 [some (.ref 95), some (.int x1), some (.int x2)] (pR r []) N' post)) : wp X (d + 1) k_M_digest 0 0 232 [some (.ref 95), some (.int x1), some (.int x2)] [] (mk vi vl) post :=
  wr_aload_n (q := 0) (by decide +kernel) rfl rfl <|
  wr_aload_n (q := 0) (by decide +kernel) rfl rfl <|
  wr_getR2 (b := 100) (ci := 4) (k0 := 5) (idx := 22) lq_95 sq_95 (by decide) (by decide) lf_M_22 rfl vq_95_5 lq_100 (by decide +kernel) <|
  wr_bipush (n := 60) (v := (60 : Int32)) (by decide +kernel) (by decide) <|
  wr_iload_n (q := 1) (by decide +kernel) rfl rfl <|
  wr_imul (by decide +kernel) <|
  wr_iload_n (q := 2) (by decide +kernel) rfl rfl <|
  wr_iadd (by decide +kernel) <|
  wr_iald lq_100 sq_100 q1 (by decide +kernel) <|
  wr_i2l (by decide +kernel) <|
  wr_invV (a := 95) (ci := 4) (mid2 := 202) (idx := 253) (b1 := 0) (b2 := 0) (c1 := 0) (c2 := 0) (as := [.long ((vi 100 (((60 : Int32) * x1) + x2).toNatClampNeg).toInt64)]) (st := []) pl_202 rfl (Nat.le_of_ble_eq_true rfl) rfl rfl lq_95 sq_95 (by decide) rfl lm_M_253 im_202 is_202 (by decide +kernel) k1
theorem b_M_digest_248 {X : aX} {d : Nat} {post : aO} {vi : Nat → Nat → Int32} {vl : Nat → Nat → Int64} {x1 x2 : Int32} (k1 : wp X (d + 1) k_M_digest 0 0 222 [some (.ref 95), some (.int x1), some (.int (x2 + (1 : Int32)))] [] (mk vi vl) post) : wp X (d + 1) k_M_digest 0 0 248 [some (.ref 95), some (.int x1), some (.int x2)] [] (mk vi vl) post :=
  wr_iinc (i := 2) (n := 1) (v := (1 : Int32)) (by decide +kernel) rfl (by decide) (by decide) <|
  wr_goto (off := -29) (t := 222) (by decide +kernel) (by decide) k1
theorem b_M_digest_254 {X : aX} {d : Nat} {post : aO} {vi : Nat → Nat → Int32} {vl : Nat → Nat → Int64} {x1 x2 : Int32} (k1 : wp X (d + 1) k_M_digest 0 0 204 [some (.ref 95), some (.int (x1 + (1 : Int32))), some (.int x2)] [] (mk vi vl) post) : wp X (d + 1) k_M_digest 0 0 254 [some (.ref 95), some (.int x1), some (.int x2)] [] (mk vi vl) post :=
  wr_iinc (i := 1) (n := 1) (v := (1 : Int32)) (by decide +kernel) rfl (by decide) (by decide) <|
  wr_goto (off := -53) (t := 204) (by decide +kernel) (by decide) k1
theorem b_M_digest_260 {X : aX} {d : Nat} {post : aO} {vi : Nat → Nat → Int32} {vl : Nat → Nat → Int64} {x1 : Int32} {o2 : Option Value} (k1 : post (some (.long (vl 95 19))) (mk vi vl)) : wp X (d + 1) k_M_digest 0 0 260 [some (.ref 95), some (.int x1), o2] [] (mk vi vl) post :=
  wr_aload_n (q := 0) (by decide +kernel) rfl rfl <|
  wr_getL (ci := 4) (k0 := 19) (idx := 245) lq_95 sq_95 (by decide) (by decide) lf_M_245 rfl (by decide +kernel) <|
  wr_ret (r := some (.long (vl 95 19))) (Or.inr (Or.inr ⟨_, rfl, (by decide +kernel), rfl⟩)) k1
theorem b_M_mix_0 {X : aX} {d : Nat} {post : aO} {vi : Nat → Nat → Int32} {vl : Nat → Nat → Int64} {x1 : Int64} (k1 : ∀ w, w = up2 vl 95 19 (((31 : Int64) * (vl 95 19)) + x1) → wp X (d + 1) k_M_mix 0 0 14 [some (.ref 95), some (.long x1), none] [] (mk vi w) post) : wp X (d + 1) k_M_mix 0 0 0 [some (.ref 95), some (.long x1), none] [] (mk vi vl) post :=
  wr_aload_n (q := 0) (by decide +kernel) rfl rfl <|
  wr_ldc2 (i := 243) (v := (31 : Int64)) (by decide +kernel) lj_M_243 <|
  wr_aload_n (q := 0) (by decide +kernel) rfl rfl <|
  wr_getL (ci := 4) (k0 := 19) (idx := 245) lq_95 sq_95 (by decide) (by decide) lf_M_245 rfl (by decide +kernel) <|
  wr_lmul (by decide +kernel) <|
  wr_lload_n (q := 1) (by decide +kernel) rfl rfl <|
  wr_ladd (by decide +kernel) <|
  wr_putL (ci := 4) (k0 := 19) (idx := 245) lq_95 sq_95 (by decide) (by decide) lf_M_245 rfl (by decide +kernel) <|
  k1 _ rfl
theorem b_M_mix_14 {X : aX} {d : Nat} {post : aO} {vi : Nat → Nat → Int32} {vl : Nat → Nat → Int64} {x1 : Int64} (k1 : post none (mk vi vl)) : wp X (d + 1) k_M_mix 0 0 14 [some (.ref 95), some (.long x1), none] [] (mk vi vl) post :=
  wr_ret (r := none) (Or.inl ⟨rfl, (by decide +kernel), rfl⟩) k1
