theorem b_L_law_18 {X : aX} {d : Nat} {post : aO} {vi : Nat → Nat → Int32} {vl : Nat → Nat → Int64} {x3 : Int32} (k1 : ((Int32.ofNat X.1) - (6 : Int32)) < x3 → wp X (d + 1) k_L_law 0 0 1344 [some (.ref 1000000), some (.ref 0), some (.ref 95), some (.int x3)] [] (mk vi vl) post) (k2 : ¬ ((Int32.ofNat X.1) - (6 : Int32)) < x3 → wp X (d + 1) k_L_law 0 0 27 [some (.ref 1000000), some (.ref 0), some (.ref 95), some (.int x3)] [] (mk vi vl) post) : wp X (d + 1) k_L_law 0 0 18 [some (.ref 1000000), some (.ref 0), some (.ref 95), some (.int x3)] [] (mk vi vl) post :=
  wr_iload_n (q := 3) (by decide +kernel) rfl rfl <|
  wr_aload_n (q := 0) (by decide +kernel) rfl rfl <|
  wr_slen (by decide +kernel) <|
  wr_bipush (n := 6) (v := (6 : Int32)) (by decide +kernel) (by decide) <|
  wr_isub (by decide +kernel) <|
  wr_icmp_gt (off := 1320) (t := 1344) (by decide +kernel) (by decide) k1 k2
theorem b_L_law_27 {X : aX} {d : Nat} {post : aO} {vi : Nat → Nat → Int32} {vl : Nat → Nat → Int64} {x3 : Int32} (q1 : vp_in x3 X.1) (k1 : swk (fun t => wp X (d + 1) k_L_law 0 0 t [some (.ref 1000000), some (.ref 0), some (.ref 95), some (.int x3)] [] (mk vi vl) post) 1338 ((X.2 x3.toNatClampNeg) &&& (63 : Int32)) [((0 : Int32), 212), ((1 : Int32), 245), ((2 : Int32), 288), ((3 : Int32), 321), ((4 : Int32), 344), ((5 : Int32), 407), ((6 : Int32), 430), ((7 : Int32), 463), ((8 : Int32), 506), ((9 : Int32), 529), ((10 : Int32), 552), ((11 : Int32), 585), ((12 : Int32), 618), ((13 : Int32), 651), ((14 : Int32), 684), ((15 : Int32), 717), ((16 : Int32), 740), ((17 : Int32), 763), ((18 : Int32), 786), ((19 : Int32), 809), ((20 : Int32), 832), ((21 : Int32), 855), ((22 : Int32), 868), ((23 : Int32), 891), ((24 : Int32), 914), ((25 : Int32), 957), ((26 : Int32), 1000), ((27 : Int32), 1033), ((28 : Int32), 1056), ((29 : Int32), 1089), ((30 : Int32), 1122), ((31 : Int32), 1135), ((32 : Int32), 1158), ((33 : Int32), 1191), ((34 : Int32), 1224), ((35 : Int32), 1237), ((36 : Int32), 1251), ((37 : Int32), 1265), ((38 : Int32), 1288), ((39 : Int32), 1301), ((40 : Int32), 1324)]) : wp X (d + 1) k_L_law 0 0 27 [some (.ref 1000000), some (.ref 0), some (.ref 95), some (.int x3)] [] (mk vi vl) post :=
  wr_aload_n (q := 0) (by decide +kernel) rfl rfl <|
  wr_iload_n (q := 3) (by decide +kernel) rfl rfl <|
  wr_sld q1 (by decide +kernel) <|
  wr_bipush (n := 63) (v := (63 : Int32)) (by decide +kernel) (by decide) <|
  wr_iand (by decide +kernel) <|
  wr_tsw (dflt := 1305) (lo := 0) (hi := 40) (offs := #[179, 212, 255, 288, 311, 374, 397, 430, 473, 496, 519, 552, 585, 618, 651, 684, 707, 730, 753, 776, 799, 822, 835, 858, 881, 924, 967, 1000, 1023, 1056, 1089, 1102, 1125, 1158, 1191, 1204, 1218, 1232, 1255, 1268, 1291]) (len := 179) (dt := 1338) (ts := [((0 : Int32), 212), ((1 : Int32), 245), ((2 : Int32), 288), ((3 : Int32), 321), ((4 : Int32), 344), ((5 : Int32), 407), ((6 : Int32), 430), ((7 : Int32), 463), ((8 : Int32), 506), ((9 : Int32), 529), ((10 : Int32), 552), ((11 : Int32), 585), ((12 : Int32), 618), ((13 : Int32), 651), ((14 : Int32), 684), ((15 : Int32), 717), ((16 : Int32), 740), ((17 : Int32), 763), ((18 : Int32), 786), ((19 : Int32), 809), ((20 : Int32), 832), ((21 : Int32), 855), ((22 : Int32), 868), ((23 : Int32), 891), ((24 : Int32), 914), ((25 : Int32), 957), ((26 : Int32), 1000), ((27 : Int32), 1033), ((28 : Int32), 1056), ((29 : Int32), 1089), ((30 : Int32), 1122), ((31 : Int32), 1135), ((32 : Int32), 1158), ((33 : Int32), 1191), ((34 : Int32), 1224), ((35 : Int32), 1237), ((36 : Int32), 1251), ((37 : Int32), 1265), ((38 : Int32), 1288), ((39 : Int32), 1301), ((40 : Int32), 1324)]) (by decide +kernel) (by decide +kernel) (by decide) (by decide) k1
theorem b_L_law_212 {X : aX} {d : Nat} {post : aO} {vi : Nat → Nat → Int32} {vl : Nat → Nat → Int64} {x3 : Int32} (q1 : vp_in (x3 + (1 : Int32)) X.1) (q2 : vp_in (x3 + (2 : Int32)) X.1) (k1 : CallOk X d 0 0 k_S_row [.ref 0, .int (X.2 (x3 + (1 : Int32)).toNatClampNeg), .int (X.2 (x3 + (2 : Int32)).toNatClampNeg)] (mk vi vl) (fun r N' => wp X (d + 1) k_L_law 0 0 226 [some (.ref 1000000), some (.ref 0), some (.ref 95), some (.int x3)] (pR r []) N' post)) : wp X (d + 1) k_L_law 0 0 212 [some (.ref 1000000), some (.ref 0), some (.ref 95), some (.int x3)] [] (mk vi vl) post :=
  wr_aload_n (q := 1) (by decide +kernel) rfl rfl <|
  wr_aload_n (q := 0) (by decide +kernel) rfl rfl <|
  wr_iload_n (q := 3) (by decide +kernel) rfl rfl <|
  wr_iconst (n := 1) (v := (1 : Int32)) (by decide +kernel) (by decide) <|
  wr_iadd (by decide +kernel) <|
  wr_sld q1 (by decide +kernel) <|
  wr_aload_n (q := 0) (by decide +kernel) rfl rfl <|
  wr_iload_n (q := 3) (by decide +kernel) rfl rfl <|
  wr_iconst (n := 2) (v := (2 : Int32)) (by decide +kernel) (by decide) <|
  wr_iadd (by decide +kernel) <|
  wr_sld q2 (by decide +kernel) <|
  wr_invV (a := 0) (ci := 3) (mid2 := 6) (idx := 13) (b1 := 0) (b2 := 0) (c1 := 0) (c2 := 0) (as := [.int (X.2 (x3 + (1 : Int32)).toNatClampNeg), .int (X.2 (x3 + (2 : Int32)).toNatClampNeg)]) (st := []) pl_6 rfl (Nat.le_of_ble_eq_true rfl) rfl rfl lq_0 sq_0 (by decide) rfl lm_L_13 im_6 is_6 (by decide +kernel) k1
theorem b_L_law_226 {X : aX} {d : Nat} {post : aO} {vi : Nat → Nat → Int32} {vl : Nat → Nat → Int64} {x3 y0 : Int32} (q1 : vp_in (x3 + (1 : Int32)) X.1) (q2 : vp_in (x3 + (2 : Int32)) X.1) (k1 : CallOk X d 0 0 k_M_row [.ref 95, .int (X.2 (x3 + (1 : Int32)).toNatClampNeg), .int (X.2 (x3 + (2 : Int32)).toNatClampNeg)] (mk vi vl) (fun r N' => wp X (d + 1) k_L_law 0 0 240 [some (.ref 1000000), some (.ref 0), some (.ref 95), some (.int x3)] (pR r [.int y0]) N' post)) : wp X (d + 1) k_L_law 0 0 226 [some (.ref 1000000), some (.ref 0), some (.ref 95), some (.int x3)] [.int y0] (mk vi vl) post :=
  wr_aload_n (q := 2) (by decide +kernel) rfl rfl <|
  wr_aload_n (q := 0) (by decide +kernel) rfl rfl <|
  wr_iload_n (q := 3) (by decide +kernel) rfl rfl <|
  wr_iconst (n := 1) (v := (1 : Int32)) (by decide +kernel) (by decide) <|
  wr_iadd (by decide +kernel) <|
  wr_sld q1 (by decide +kernel) <|
  wr_aload_n (q := 0) (by decide +kernel) rfl rfl <|
  wr_iload_n (q := 3) (by decide +kernel) rfl rfl <|
  wr_iconst (n := 2) (v := (2 : Int32)) (by decide +kernel) (by decide) <|
  wr_iadd (by decide +kernel) <|
  wr_sld q2 (by decide +kernel) <|
  wr_invV (a := 95) (ci := 4) (mid2 := 116) (idx := 17) (b1 := 0) (b2 := 0) (c1 := 0) (c2 := 0) (as := [.int (X.2 (x3 + (1 : Int32)).toNatClampNeg), .int (X.2 (x3 + (2 : Int32)).toNatClampNeg)]) (st := [.int y0]) pl_116 rfl (Nat.le_of_ble_eq_true rfl) rfl rfl lq_95 sq_95 (by decide) rfl lm_L_17 im_116 is_116 (by decide +kernel) k1
theorem b_L_law_240 {X : aX} {d : Nat} {post : aO} {vi : Nat → Nat → Int32} {vl : Nat → Nat → Int64} {x3 y0 y1 : Int32} (k1 : y0 = y1 → wp X (d + 1) k_L_law 0 0 1338 [some (.ref 1000000), some (.ref 0), some (.ref 95), some (.int x3)] [] (mk vi vl) post) (k2 : ¬ y0 = y1 → wp X (d + 1) k_L_law 0 0 243 [some (.ref 1000000), some (.ref 0), some (.ref 95), some (.int x3)] [] (mk vi vl) post) : wp X (d + 1) k_L_law 0 0 240 [some (.ref 1000000), some (.ref 0), some (.ref 95), some (.int x3)] [.int y1, .int y0] (mk vi vl) post :=
  wr_icmp_eq (off := 1098) (t := 1338) (by decide +kernel) (by decide) k1 k2
theorem b_L_law_243 {X : aX} {d : Nat} {post : aO} {vi : Nat → Nat → Int32} {vl : Nat → Nat → Int64} {x3 : Int32} (k1 : post (some (.int (0 : Int32))) (mk vi vl)) : wp X (d + 1) k_L_law 0 0 243 [some (.ref 1000000), some (.ref 0), some (.ref 95), some (.int x3)] [] (mk vi vl) post :=
  wr_iconst (n := 0) (v := (0 : Int32)) (by decide +kernel) (by decide) <|
  wr_ret (r := some (.int (0 : Int32))) (Or.inr (Or.inl ⟨_, rfl, (by decide +kernel), (Or.inr ⟨rfl, (by decide)⟩)⟩)) k1
theorem b_L_law_245 {X : aX} {d : Nat} {post : aO} {vi : Nat → Nat → Int32} {vl : Nat → Nat → Int64} {x3 : Int32} (q1 : vp_in (x3 + (1 : Int32)) X.1) (q2 : vp_in (x3 + (2 : Int32)) X.1) (q3 : vp_in (x3 + (3 : Int32)) X.1) (k1 : CallOk X d 0 0 k_S_lay [.ref 0, .int (X.2 (x3 + (1 : Int32)).toNatClampNeg), .int (X.2 (x3 + (2 : Int32)).toNatClampNeg), .int (X.2 (x3 + (3 : Int32)).toNatClampNeg)] (mk vi vl) (fun r N' => wp X (d + 1) k_L_law 0 0 264 [some (.ref 1000000), some (.ref 0), some (.ref 95), some (.int x3)] (pR r []) N' post)) : wp X (d + 1) k_L_law 0 0 245 [some (.ref 1000000), some (.ref 0), some (.ref 95), some (.int x3)] [] (mk vi vl) post :=
  wr_aload_n (q := 1) (by decide +kernel) rfl rfl <|
  wr_aload_n (q := 0) (by decide +kernel) rfl rfl <|
  wr_iload_n (q := 3) (by decide +kernel) rfl rfl <|
  wr_iconst (n := 1) (v := (1 : Int32)) (by decide +kernel) (by decide) <|
  wr_iadd (by decide +kernel) <|
  wr_sld q1 (by decide +kernel) <|
  wr_aload_n (q := 0) (by decide +kernel) rfl rfl <|
  wr_iload_n (q := 3) (by decide +kernel) rfl rfl <|
  wr_iconst (n := 2) (v := (2 : Int32)) (by decide +kernel) (by decide) <|
  wr_iadd (by decide +kernel) <|
  wr_sld q2 (by decide +kernel) <|
  wr_aload_n (q := 0) (by decide +kernel) rfl rfl <|
  wr_iload_n (q := 3) (by decide +kernel) rfl rfl <|
  wr_iconst (n := 3) (v := (3 : Int32)) (by decide +kernel) (by decide) <|
  wr_iadd (by decide +kernel) <|
  wr_sld q3 (by decide +kernel) <|
  wr_invV (a := 0) (ci := 3) (mid2 := 12) (idx := 18) (b1 := 0) (b2 := 0) (c1 := 0) (c2 := 0) (as := [.int (X.2 (x3 + (1 : Int32)).toNatClampNeg), .int (X.2 (x3 + (2 : Int32)).toNatClampNeg), .int (X.2 (x3 + (3 : Int32)).toNatClampNeg)]) (st := []) pl_12 rfl (Nat.le_of_ble_eq_true rfl) rfl rfl lq_0 sq_0 (by decide) rfl lm_L_18 im_12 is_12 (by decide +kernel) k1
theorem b_L_law_264 {X : aX} {d : Nat} {post : aO} {vi : Nat → Nat → Int32} {vl : Nat → Nat → Int64} {x3 y0 : Int32} (q1 : vp_in (x3 + (1 : Int32)) X.1) (q2 : vp_in (x3 + (2 : Int32)) X.1) (q3 : vp_in (x3 + (3 : Int32)) X.1) (k1 : CallOk X d 0 0 k_M_lay [.ref 95, .int (X.2 (x3 + (1 : Int32)).toNatClampNeg), .int (X.2 (x3 + (2 : Int32)).toNatClampNeg), .int (X.2 (x3 + (3 : Int32)).toNatClampNeg)] (mk vi vl) (fun r N' => wp X (d + 1) k_L_law 0 0 283 [some (.ref 1000000), some (.ref 0), some (.ref 95), some (.int x3)] (pR r [.int y0]) N' post)) : wp X (d + 1) k_L_law 0 0 264 [some (.ref 1000000), some (.ref 0), some (.ref 95), some (.int x3)] [.int y0] (mk vi vl) post :=
  wr_aload_n (q := 2) (by decide +kernel) rfl rfl <|
  wr_aload_n (q := 0) (by decide +kernel) rfl rfl <|
  wr_iload_n (q := 3) (by decide +kernel) rfl rfl <|
  wr_iconst (n := 1) (v := (1 : Int32)) (by decide +kernel) (by decide) <|
  wr_iadd (by decide +kernel) <|
  wr_sld q1 (by decide +kernel) <|
  wr_aload_n (q := 0) (by decide +kernel) rfl rfl <|
  wr_iload_n (q := 3) (by decide +kernel) rfl rfl <|
  wr_iconst (n := 2) (v := (2 : Int32)) (by decide +kernel) (by decide) <|
  wr_iadd (by decide +kernel) <|
  wr_sld q2 (by decide +kernel) <|
  wr_aload_n (q := 0) (by decide +kernel) rfl rfl <|
  wr_iload_n (q := 3) (by decide +kernel) rfl rfl <|
  wr_iconst (n := 3) (v := (3 : Int32)) (by decide +kernel) (by decide) <|
  wr_iadd (by decide +kernel) <|
  wr_sld q3 (by decide +kernel) <|
  wr_invV (a := 95) (ci := 4) (mid2 := 121) (idx := 22) (b1 := 0) (b2 := 0) (c1 := 0) (c2 := 0) (as := [.int (X.2 (x3 + (1 : Int32)).toNatClampNeg), .int (X.2 (x3 + (2 : Int32)).toNatClampNeg), .int (X.2 (x3 + (3 : Int32)).toNatClampNeg)]) (st := [.int y0]) pl_121 rfl (Nat.le_of_ble_eq_true rfl) rfl rfl lq_95 sq_95 (by decide) rfl lm_L_22 im_121 is_121 (by decide +kernel) k1
theorem b_L_law_283 {X : aX} {d : Nat} {post : aO} {vi : Nat → Nat → Int32} {vl : Nat → Nat → Int64} {x3 y0 y1 : Int32} (k1 : y0 = y1 → wp X (d + 1) k_L_law 0 0 1338 [some (.ref 1000000), some (.ref 0), some (.ref 95), some (.int x3)] [] (mk vi vl) post) (k2 : ¬ y0 = y1 → wp X (d + 1) k_L_law 0 0 286 [some (.ref 1000000), some (.ref 0), some (.ref 95), some (.int x3)] [] (mk vi vl) post) : wp X (d + 1) k_L_law 0 0 283 [some (.ref 1000000), some (.ref 0), some (.ref 95), some (.int x3)] [.int y1, .int y0] (mk vi vl) post :=
  wr_icmp_eq (off := 1055) (t := 1338) (by decide +kernel) (by decide) k1 k2
theorem b_L_law_286 {X : aX} {d : Nat} {post : aO} {vi : Nat → Nat → Int32} {vl : Nat → Nat → Int64} {x3 : Int32} (k1 : post (some (.int (0 : Int32))) (mk vi vl)) : wp X (d + 1) k_L_law 0 0 286 [some (.ref 1000000), some (.ref 0), some (.ref 95), some (.int x3)] [] (mk vi vl) post :=
  wr_iconst (n := 0) (v := (0 : Int32)) (by decide +kernel) (by decide) <|
  wr_ret (r := some (.int (0 : Int32))) (Or.inr (Or.inl ⟨_, rfl, (by decide +kernel), (Or.inr ⟨rfl, (by decide)⟩)⟩)) k1
theorem b_L_law_288 {X : aX} {d : Nat} {post : aO} {vi : Nat → Nat → Int32} {vl : Nat → Nat → Int64} {x3 : Int32} (q1 : vp_in (x3 + (1 : Int32)) X.1) (q2 : vp_in (x3 + (2 : Int32)) X.1) (k1 : CallOk X d 0 0 k_S_at [.ref 0, .int (X.2 (x3 + (1 : Int32)).toNatClampNeg), .int (X.2 (x3 + (2 : Int32)).toNatClampNeg)] (mk vi vl) (fun r N' => wp X (d + 1) k_L_law 0 0 302 [some (.ref 1000000), some (.ref 0), some (.ref 95), some (.int x3)] (pR r []) N' post)) : wp X (d + 1) k_L_law 0 0 288 [some (.ref 1000000), some (.ref 0), some (.ref 95), some (.int x3)] [] (mk vi vl) post :=
  wr_aload_n (q := 1) (by decide +kernel) rfl rfl <|
  wr_aload_n (q := 0) (by decide +kernel) rfl rfl <|
  wr_iload_n (q := 3) (by decide +kernel) rfl rfl <|
  wr_iconst (n := 1) (v := (1 : Int32)) (by decide +kernel) (by decide) <|
  wr_iadd (by decide +kernel) <|
  wr_sld q1 (by decide +kernel) <|
  wr_aload_n (q := 0) (by decide +kernel) rfl rfl <|
  wr_iload_n (q := 3) (by decide +kernel) rfl rfl <|
  wr_iconst (n := 2) (v := (2 : Int32)) (by decide +kernel) (by decide) <|
  wr_iadd (by decide +kernel) <|
  wr_sld q2 (by decide +kernel) <|
  wr_invV (a := 0) (ci := 3) (mid2 := 16) (idx := 23) (b1 := 0) (b2 := 0) (c1 := 0) (c2 := 0) (as := [.int (X.2 (x3 + (1 : Int32)).toNatClampNeg), .int (X.2 (x3 + (2 : Int32)).toNatClampNeg)]) (st := []) pl_16 rfl (Nat.le_of_ble_eq_true rfl) rfl rfl lq_0 sq_0 (by decide) rfl lm_L_23 im_16 is_16 (by decide +kernel) k1
theorem b_L_law_302 {X : aX} {d : Nat} {post : aO} {vi : Nat → Nat → Int32} {vl : Nat → Nat → Int64} {x3 y0 : Int32} (q1 : vp_in (x3 + (1 : Int32)) X.1) (q2 : vp_in (x3 + (2 : Int32)) X.1) (k1 : CallOk X d 0 0 k_M_at [.ref 95, .int (X.2 (x3 + (1 : Int32)).toNatClampNeg), .int (X.2 (x3 + (2 : Int32)).toNatClampNeg)] (mk vi vl) (fun r N' => wp X (d + 1) k_L_law 0 0 316 [some (.ref 1000000), some (.ref 0), some (.ref 95), some (.int x3)] (pR r [.int y0]) N' post)) : wp X (d + 1) k_L_law 0 0 302 [some (.ref 1000000), some (.ref 0), some (.ref 95), some (.int x3)] [.int y0] (mk vi vl) post :=
  wr_aload_n (q := 2) (by decide +kernel) rfl rfl <|
  wr_aload_n (q := 0) (by decide +kernel) rfl rfl <|
  wr_iload_n (q := 3) (by decide +kernel) rfl rfl <|
  wr_iconst (n := 1) (v := (1 : Int32)) (by decide +kernel) (by decide) <|
  wr_iadd (by decide +kernel) <|
  wr_sld q1 (by decide +kernel) <|
  wr_aload_n (q := 0) (by decide +kernel) rfl rfl <|
  wr_iload_n (q := 3) (by decide +kernel) rfl rfl <|
  wr_iconst (n := 2) (v := (2 : Int32)) (by decide +kernel) (by decide) <|
  wr_iadd (by decide +kernel) <|
  wr_sld q2 (by decide +kernel) <|
  wr_invV (a := 95) (ci := 4) (mid2 := 122) (idx := 26) (b1 := 0) (b2 := 0) (c1 := 0) (c2 := 0) (as := [.int (X.2 (x3 + (1 : Int32)).toNatClampNeg), .int (X.2 (x3 + (2 : Int32)).toNatClampNeg)]) (st := [.int y0]) pl_122 rfl (Nat.le_of_ble_eq_true rfl) rfl rfl lq_95 sq_95 (by decide) rfl lm_L_26 im_122 is_122 (by decide +kernel) k1
theorem b_L_law_316 {X : aX} {d : Nat} {post : aO} {vi : Nat → Nat → Int32} {vl : Nat → Nat → Int64} {x3 y0 y1 : Int32} (k1 : y0 = y1 → wp X (d + 1) k_L_law 0 0 1338 [some (.ref 1000000), some (.ref 0), some (.ref 95), some (.int x3)] [] (mk vi vl) post) (k2 : ¬ y0 = y1 → wp X (d + 1) k_L_law 0 0 319 [some (.ref 1000000), some (.ref 0), some (.ref 95), some (.int x3)] [] (mk vi vl) post) : wp X (d + 1) k_L_law 0 0 316 [some (.ref 1000000), some (.ref 0), some (.ref 95), some (.int x3)] [.int y1, .int y0] (mk vi vl) post :=
  wr_icmp_eq (off := 1022) (t := 1338) (by decide +kernel) (by decide) k1 k2
theorem b_L_law_319 {X : aX} {d : Nat} {post : aO} {vi : Nat → Nat → Int32} {vl : Nat → Nat → Int64} {x3 : Int32} (k1 : post (some (.int (0 : Int32))) (mk vi vl)) : wp X (d + 1) k_L_law 0 0 319 [some (.ref 1000000), some (.ref 0), some (.ref 95), some (.int x3)] [] (mk vi vl) post :=
  wr_iconst (n := 0) (v := (0 : Int32)) (by decide +kernel) (by decide) <|
  wr_ret (r := some (.int (0 : Int32))) (Or.inr (Or.inl ⟨_, rfl, (by decide +kernel), (Or.inr ⟨rfl, (by decide)⟩)⟩)) k1
theorem b_L_law_321 {X : aX} {d : Nat} {post : aO} {vi : Nat → Nat → Int32} {vl : Nat → Nat → Int64} {x3 : Int32} (q1 : vp_in (x3 + (1 : Int32)) X.1) (k1 : CallOk X d 0 0 k_S_tear [.ref 0, .int (X.2 (x3 + (1 : Int32)).toNatClampNeg)] (mk vi vl) (fun r N' => wp X (d + 1) k_L_law 0 0 330 [some (.ref 1000000), some (.ref 0), some (.ref 95), some (.int x3)] (pR r []) N' post)) : wp X (d + 1) k_L_law 0 0 321 [some (.ref 1000000), some (.ref 0), some (.ref 95), some (.int x3)] [] (mk vi vl) post :=
  wr_aload_n (q := 1) (by decide +kernel) rfl rfl <|
  wr_aload_n (q := 0) (by decide +kernel) rfl rfl <|
  wr_iload_n (q := 3) (by decide +kernel) rfl rfl <|
  wr_iconst (n := 1) (v := (1 : Int32)) (by decide +kernel) (by decide) <|
  wr_iadd (by decide +kernel) <|
  wr_sld q1 (by decide +kernel) <|
  wr_invV (a := 0) (ci := 3) (mid2 := 17) (idx := 27) (b1 := 0) (b2 := 0) (c1 := 0) (c2 := 0) (as := [.int (X.2 (x3 + (1 : Int32)).toNatClampNeg)]) (st := []) pl_17 rfl (Nat.le_of_ble_eq_true rfl) rfl rfl lq_0 sq_0 (by decide) rfl lm_L_27 im_17 is_17 (by decide +kernel) k1
theorem b_L_law_330 {X : aX} {d : Nat} {post : aO} {vi : Nat → Nat → Int32} {vl : Nat → Nat → Int64} {x3 y0 : Int32} (q1 : vp_in (x3 + (1 : Int32)) X.1) (k1 : CallOk X d 0 0 k_M_tear [.ref 95, .int (X.2 (x3 + (1 : Int32)).toNatClampNeg)] (mk vi vl) (fun r N' => wp X (d + 1) k_L_law 0 0 339 [some (.ref 1000000), some (.ref 0), some (.ref 95), some (.int x3)] (pR r [.int y0]) N' post)) : wp X (d + 1) k_L_law 0 0 330 [some (.ref 1000000), some (.ref 0), some (.ref 95), some (.int x3)] [.int y0] (mk vi vl) post :=
  wr_aload_n (q := 2) (by decide +kernel) rfl rfl <|
  wr_aload_n (q := 0) (by decide +kernel) rfl rfl <|
  wr_iload_n (q := 3) (by decide +kernel) rfl rfl <|
  wr_iconst (n := 1) (v := (1 : Int32)) (by decide +kernel) (by decide) <|
  wr_iadd (by decide +kernel) <|
  wr_sld q1 (by decide +kernel) <|
  wr_invV (a := 95) (ci := 4) (mid2 := 124) (idx := 31) (b1 := 0) (b2 := 0) (c1 := 0) (c2 := 0) (as := [.int (X.2 (x3 + (1 : Int32)).toNatClampNeg)]) (st := [.int y0]) pl_124 rfl (Nat.le_of_ble_eq_true rfl) rfl rfl lq_95 sq_95 (by decide) rfl lm_L_31 im_124 is_124 (by decide +kernel) k1
theorem b_L_law_339 {X : aX} {d : Nat} {post : aO} {vi : Nat → Nat → Int32} {vl : Nat → Nat → Int64} {x3 y0 y1 : Int32} (k1 : y0 = y1 → wp X (d + 1) k_L_law 0 0 1338 [some (.ref 1000000), some (.ref 0), some (.ref 95), some (.int x3)] [] (mk vi vl) post) (k2 : ¬ y0 = y1 → wp X (d + 1) k_L_law 0 0 342 [some (.ref 1000000), some (.ref 0), some (.ref 95), some (.int x3)] [] (mk vi vl) post) : wp X (d + 1) k_L_law 0 0 339 [some (.ref 1000000), some (.ref 0), some (.ref 95), some (.int x3)] [.int y1, .int y0] (mk vi vl) post :=
  wr_icmp_eq (off := 999) (t := 1338) (by decide +kernel) (by decide) k1 k2
theorem b_L_law_342 {X : aX} {d : Nat} {post : aO} {vi : Nat → Nat → Int32} {vl : Nat → Nat → Int64} {x3 : Int32} (k1 : post (some (.int (0 : Int32))) (mk vi vl)) : wp X (d + 1) k_L_law 0 0 342 [some (.ref 1000000), some (.ref 0), some (.ref 95), some (.int x3)] [] (mk vi vl) post :=
  wr_iconst (n := 0) (v := (0 : Int32)) (by decide +kernel) (by decide) <|
  wr_ret (r := some (.int (0 : Int32))) (Or.inr (Or.inl ⟨_, rfl, (by decide +kernel), (Or.inr ⟨rfl, (by decide)⟩)⟩)) k1
theorem b_L_law_344 {X : aX} {d : Nat} {post : aO} {vi : Nat → Nat → Int32} {vl : Nat → Nat → Int64} {x3 : Int32} (q1 : vp_in (x3 + (1 : Int32)) X.1) (q2 : vp_in (x3 + (2 : Int32)) X.1) (q3 : vp_in (x3 + (3 : Int32)) X.1) (q4 : vp_in (x3 + (4 : Int32)) X.1) (q5 : vp_in (x3 + (5 : Int32)) X.1) (k1 : CallOk X d 0 0 k_S_copy [.ref 0, .int (X.2 (x3 + (1 : Int32)).toNatClampNeg), .int (X.2 (x3 + (2 : Int32)).toNatClampNeg), .int (X.2 (x3 + (3 : Int32)).toNatClampNeg), .int (X.2 (x3 + (4 : Int32)).toNatClampNeg), .int (X.2 (x3 + (5 : Int32)).toNatClampNeg)] (mk vi vl) (fun r N' => wp X (d + 1) k_L_law 0 0 373 [some (.ref 1000000), some (.ref 0), some (.ref 95), some (.int x3)] (pR r []) N' post)) : wp X (d + 1) k_L_law 0 0 344 [some (.ref 1000000), some (.ref 0), some (.ref 95), some (.int x3)] [] (mk vi vl) post :=
  wr_aload_n (q := 1) (by decide +kernel) rfl rfl <|
  wr_aload_n (q := 0) (by decide +kernel) rfl rfl <|
  wr_iload_n (q := 3) (by decide +kernel) rfl rfl <|
  wr_iconst (n := 1) (v := (1 : Int32)) (by decide +kernel) (by decide) <|
  wr_iadd (by decide +kernel) <|
  wr_sld q1 (by decide +kernel) <|
  wr_aload_n (q := 0) (by decide +kernel) rfl rfl <|
  wr_iload_n (q := 3) (by decide +kernel) rfl rfl <|
  wr_iconst (n := 2) (v := (2 : Int32)) (by decide +kernel) (by decide) <|
  wr_iadd (by decide +kernel) <|
  wr_sld q2 (by decide +kernel) <|
  wr_aload_n (q := 0) (by decide +kernel) rfl rfl <|
  wr_iload_n (q := 3) (by decide +kernel) rfl rfl <|
  wr_iconst (n := 3) (v := (3 : Int32)) (by decide +kernel) (by decide) <|
  wr_iadd (by decide +kernel) <|
  wr_sld q3 (by decide +kernel) <|
  wr_aload_n (q := 0) (by decide +kernel) rfl rfl <|
  wr_iload_n (q := 3) (by decide +kernel) rfl rfl <|
  wr_iconst (n := 4) (v := (4 : Int32)) (by decide +kernel) (by decide) <|
  wr_iadd (by decide +kernel) <|
  wr_sld q4 (by decide +kernel) <|
  wr_aload_n (q := 0) (by decide +kernel) rfl rfl <|
  wr_iload_n (q := 3) (by decide +kernel) rfl rfl <|
  wr_iconst (n := 5) (v := (5 : Int32)) (by decide +kernel) (by decide) <|
  wr_iadd (by decide +kernel) <|
  wr_sld q5 (by decide +kernel) <|
  wr_invV (a := 0) (ci := 3) (mid2 := 19) (idx := 32) (b1 := 0) (b2 := 0) (c1 := 0) (c2 := 0) (as := [.int (X.2 (x3 + (1 : Int32)).toNatClampNeg), .int (X.2 (x3 + (2 : Int32)).toNatClampNeg), .int (X.2 (x3 + (3 : Int32)).toNatClampNeg), .int (X.2 (x3 + (4 : Int32)).toNatClampNeg), .int (X.2 (x3 + (5 : Int32)).toNatClampNeg)]) (st := []) pl_19 rfl (Nat.le_of_ble_eq_true rfl) rfl rfl lq_0 sq_0 (by decide) rfl lm_L_32 im_19 is_19 (by decide +kernel) k1
theorem b_L_law_373 {X : aX} {d : Nat} {post : aO} {vi : Nat → Nat → Int32} {vl : Nat → Nat → Int64} {x3 y0 : Int32} (q1 : vp_in (x3 + (1 : Int32)) X.1) (q2 : vp_in (x3 + (2 : Int32)) X.1) (q3 : vp_in (x3 + (3 : Int32)) X.1) (q4 : vp_in (x3 + (4 : Int32)) X.1) (q5 : vp_in (x3 + (5 : Int32)) X.1) (k1 : CallOk X d 0 0 k_M_copy [.ref 95, .int (X.2 (x3 + (1 : Int32)).toNatClampNeg), .int (X.2 (x3 + (2 : Int32)).toNatClampNeg), .int (X.2 (x3 + (3 : Int32)).toNatClampNeg), .int (X.2 (x3 + (4 : Int32)).toNatClampNeg), .int (X.2 (x3 + (5 : Int32)).toNatClampNeg)] (mk vi vl) (fun r N' => wp X (d + 1) k_L_law 0 0 402 [some (.ref 1000000), some (.ref 0), some (.ref 95), some (.int x3)] (pR r [.int y0]) N' post)) : wp X (d + 1) k_L_law 0 0 373 [some (.ref 1000000), some (.ref 0), some (.ref 95), some (.int x3)] [.int y0] (mk vi vl) post :=
  wr_aload_n (q := 2) (by decide +kernel) rfl rfl <|
  wr_aload_n (q := 0) (by decide +kernel) rfl rfl <|
  wr_iload_n (q := 3) (by decide +kernel) rfl rfl <|
  wr_iconst (n := 1) (v := (1 : Int32)) (by decide +kernel) (by decide) <|
  wr_iadd (by decide +kernel) <|
  wr_sld q1 (by decide +kernel) <|
  wr_aload_n (q := 0) (by decide +kernel) rfl rfl <|
  wr_iload_n (q := 3) (by decide +kernel) rfl rfl <|
  wr_iconst (n := 2) (v := (2 : Int32)) (by decide +kernel) (by decide) <|
  wr_iadd (by decide +kernel) <|
  wr_sld q2 (by decide +kernel) <|
  wr_aload_n (q := 0) (by decide +kernel) rfl rfl <|
  wr_iload_n (q := 3) (by decide +kernel) rfl rfl <|
  wr_iconst (n := 3) (v := (3 : Int32)) (by decide +kernel) (by decide) <|
  wr_iadd (by decide +kernel) <|
  wr_sld q3 (by decide +kernel) <|
  wr_aload_n (q := 0) (by decide +kernel) rfl rfl <|
  wr_iload_n (q := 3) (by decide +kernel) rfl rfl <|
  wr_iconst (n := 4) (v := (4 : Int32)) (by decide +kernel) (by decide) <|
  wr_iadd (by decide +kernel) <|
  wr_sld q4 (by decide +kernel) <|
  wr_aload_n (q := 0) (by decide +kernel) rfl rfl <|
  wr_iload_n (q := 3) (by decide +kernel) rfl rfl <|
  wr_iconst (n := 5) (v := (5 : Int32)) (by decide +kernel) (by decide) <|
  wr_iadd (by decide +kernel) <|
  wr_sld q5 (by decide +kernel) <|
  wr_invV (a := 95) (ci := 4) (mid2 := 125) (idx := 36) (b1 := 0) (b2 := 0) (c1 := 0) (c2 := 0) (as := [.int (X.2 (x3 + (1 : Int32)).toNatClampNeg), .int (X.2 (x3 + (2 : Int32)).toNatClampNeg), .int (X.2 (x3 + (3 : Int32)).toNatClampNeg), .int (X.2 (x3 + (4 : Int32)).toNatClampNeg), .int (X.2 (x3 + (5 : Int32)).toNatClampNeg)]) (st := [.int y0]) pl_125 rfl (Nat.le_of_ble_eq_true rfl) rfl rfl lq_95 sq_95 (by decide) rfl lm_L_36 im_125 is_125 (by decide +kernel) k1
theorem b_L_law_402 {X : aX} {d : Nat} {post : aO} {vi : Nat → Nat → Int32} {vl : Nat → Nat → Int64} {x3 y0 y1 : Int32} (k1 : y0 = y1 → wp X (d + 1) k_L_law 0 0 1338 [some (.ref 1000000), some (.ref 0), some (.ref 95), some (.int x3)] [] (mk vi vl) post) (k2 : ¬ y0 = y1 → wp X (d + 1) k_L_law 0 0 405 [some (.ref 1000000), some (.ref 0), some (.ref 95), some (.int x3)] [] (mk vi vl) post) : wp X (d + 1) k_L_law 0 0 402 [some (.ref 1000000), some (.ref 0), some (.ref 95), some (.int x3)] [.int y1, .int y0] (mk vi vl) post :=
  wr_icmp_eq (off := 936) (t := 1338) (by decide +kernel) (by decide) k1 k2
theorem b_L_law_405 {X : aX} {d : Nat} {post : aO} {vi : Nat → Nat → Int32} {vl : Nat → Nat → Int64} {x3 : Int32} (k1 : post (some (.int (0 : Int32))) (mk vi vl)) : wp X (d + 1) k_L_law 0 0 405 [some (.ref 1000000), some (.ref 0), some (.ref 95), some (.int x3)] [] (mk vi vl) post :=
  wr_iconst (n := 0) (v := (0 : Int32)) (by decide +kernel) (by decide) <|
  wr_ret (r := some (.int (0 : Int32))) (Or.inr (Or.inl ⟨_, rfl, (by decide +kernel), (Or.inr ⟨rfl, (by decide)⟩)⟩)) k1
theorem b_L_law_407 {X : aX} {d : Nat} {post : aO} {vi : Nat → Nat → Int32} {vl : Nat → Nat → Int64} {x3 : Int32} (q1 : vp_in (x3 + (1 : Int32)) X.1) (k1 : CallOk X d 0 0 k_S_mean [.ref 0, .int (X.2 (x3 + (1 : Int32)).toNatClampNeg)] (mk vi vl) (fun r N' => wp X (d + 1) k_L_law 0 0 416 [some (.ref 1000000), some (.ref 0), some (.ref 95), some (.int x3)] (pR r []) N' post)) : wp X (d + 1) k_L_law 0 0 407 [some (.ref 1000000), some (.ref 0), some (.ref 95), some (.int x3)] [] (mk vi vl) post :=
  wr_aload_n (q := 1) (by decide +kernel) rfl rfl <|
  wr_aload_n (q := 0) (by decide +kernel) rfl rfl <|
  wr_iload_n (q := 3) (by decide +kernel) rfl rfl <|
  wr_iconst (n := 1) (v := (1 : Int32)) (by decide +kernel) (by decide) <|
  wr_iadd (by decide +kernel) <|
  wr_sld q1 (by decide +kernel) <|
  wr_invV (a := 0) (ci := 3) (mid2 := 21) (idx := 37) (b1 := 0) (b2 := 0) (c1 := 0) (c2 := 0) (as := [.int (X.2 (x3 + (1 : Int32)).toNatClampNeg)]) (st := []) pl_21 rfl (Nat.le_of_ble_eq_true rfl) rfl rfl lq_0 sq_0 (by decide) rfl lm_L_37 im_21 is_21 (by decide +kernel) k1
theorem b_L_law_416 {X : aX} {d : Nat} {post : aO} {vi : Nat → Nat → Int32} {vl : Nat → Nat → Int64} {x3 y0 : Int32} (q1 : vp_in (x3 + (1 : Int32)) X.1) (k1 : CallOk X d 0 0 k_M_mean [.ref 95, .int (X.2 (x3 + (1 : Int32)).toNatClampNeg)] (mk vi vl) (fun r N' => wp X (d + 1) k_L_law 0 0 425 [some (.ref 1000000), some (.ref 0), some (.ref 95), some (.int x3)] (pR r [.int y0]) N' post)) : wp X (d + 1) k_L_law 0 0 416 [some (.ref 1000000), some (.ref 0), some (.ref 95), some (.int x3)] [.int y0] (mk vi vl) post :=
  wr_aload_n (q := 2) (by decide +kernel) rfl rfl <|
  wr_aload_n (q := 0) (by decide +kernel) rfl rfl <|
  wr_iload_n (q := 3) (by decide +kernel) rfl rfl <|
  wr_iconst (n := 1) (v := (1 : Int32)) (by decide +kernel) (by decide) <|
  wr_iadd (by decide +kernel) <|
  wr_sld q1 (by decide +kernel) <|
  wr_invV (a := 95) (ci := 4) (mid2 := 127) (idx := 40) (b1 := 0) (b2 := 0) (c1 := 0) (c2 := 0) (as := [.int (X.2 (x3 + (1 : Int32)).toNatClampNeg)]) (st := [.int y0]) pl_127 rfl (Nat.le_of_ble_eq_true rfl) rfl rfl lq_95 sq_95 (by decide) rfl lm_L_40 im_127 is_127 (by decide +kernel) k1
theorem b_L_law_425 {X : aX} {d : Nat} {post : aO} {vi : Nat → Nat → Int32} {vl : Nat → Nat → Int64} {x3 y0 y1 : Int32} (k1 : y0 = y1 → wp X (d + 1) k_L_law 0 0 1338 [some (.ref 1000000), some (.ref 0), some (.ref 95), some (.int x3)] [] (mk vi vl) post) (k2 : ¬ y0 = y1 → wp X (d + 1) k_L_law 0 0 428 [some (.ref 1000000), some (.ref 0), some (.ref 95), some (.int x3)] [] (mk vi vl) post) : wp X (d + 1) k_L_law 0 0 425 [some (.ref 1000000), some (.ref 0), some (.ref 95), some (.int x3)] [.int y1, .int y0] (mk vi vl) post :=
  wr_icmp_eq (off := 913) (t := 1338) (by decide +kernel) (by decide) k1 k2
theorem b_L_law_428 {X : aX} {d : Nat} {post : aO} {vi : Nat → Nat → Int32} {vl : Nat → Nat → Int64} {x3 : Int32} (k1 : post (some (.int (0 : Int32))) (mk vi vl)) : wp X (d + 1) k_L_law 0 0 428 [some (.ref 1000000), some (.ref 0), some (.ref 95), some (.int x3)] [] (mk vi vl) post :=
  wr_iconst (n := 0) (v := (0 : Int32)) (by decide +kernel) (by decide) <|
  wr_ret (r := some (.int (0 : Int32))) (Or.inr (Or.inl ⟨_, rfl, (by decide +kernel), (Or.inr ⟨rfl, (by decide)⟩)⟩)) k1
theorem b_L_law_430 {X : aX} {d : Nat} {post : aO} {vi : Nat → Nat → Int32} {vl : Nat → Nat → Int64} {x3 : Int32} (q1 : vp_in (x3 + (1 : Int32)) X.1) (q2 : vp_in (x3 + (2 : Int32)) X.1) (k1 : CallOk X d 0 0 k_S_text [.ref 0, .int (X.2 (x3 + (1 : Int32)).toNatClampNeg), .int (X.2 (x3 + (2 : Int32)).toNatClampNeg)] (mk vi vl) (fun r N' => wp X (d + 1) k_L_law 0 0 444 [some (.ref 1000000), some (.ref 0), some (.ref 95), some (.int x3)] (pR r []) N' post)) : wp X (d + 1) k_L_law 0 0 430 [some (.ref 1000000), some (.ref 0), some (.ref 95), some (.int x3)] [] (mk vi vl) post :=
  wr_aload_n (q := 1) (by decide +kernel) rfl rfl <|
  wr_aload_n (q := 0) (by decide +kernel) rfl rfl <|
  wr_iload_n (q := 3) (by decide +kernel) rfl rfl <|
  wr_iconst (n := 1) (v := (1 : Int32)) (by decide +kernel) (by decide) <|
  wr_iadd (by decide +kernel) <|
  wr_sld q1 (by decide +kernel) <|
  wr_aload_n (q := 0) (by decide +kernel) rfl rfl <|
  wr_iload_n (q := 3) (by decide +kernel) rfl rfl <|
  wr_iconst (n := 2) (v := (2 : Int32)) (by decide +kernel) (by decide) <|
  wr_iadd (by decide +kernel) <|
  wr_sld q2 (by decide +kernel) <|
  wr_invV (a := 0) (ci := 3) (mid2 := 22) (idx := 41) (b1 := 0) (b2 := 0) (c1 := 0) (c2 := 0) (as := [.int (X.2 (x3 + (1 : Int32)).toNatClampNeg), .int (X.2 (x3 + (2 : Int32)).toNatClampNeg)]) (st := []) pl_22 rfl (Nat.le_of_ble_eq_true rfl) rfl rfl lq_0 sq_0 (by decide) rfl lm_L_41 im_22 is_22 (by decide +kernel) k1
theorem b_L_law_444 {X : aX} {d : Nat} {post : aO} {vi : Nat → Nat → Int32} {vl : Nat → Nat → Int64} {x3 y0 : Int32} (q1 : vp_in (x3 + (1 : Int32)) X.1) (q2 : vp_in (x3 + (2 : Int32)) X.1) (k1 : CallOk X d 0 0 k_M_text [.ref 95, .int (X.2 (x3 + (1 : Int32)).toNatClampNeg), .int (X.2 (x3 + (2 : Int32)).toNatClampNeg)] (mk vi vl) (fun r N' => wp X (d + 1) k_L_law 0 0 458 [some (.ref 1000000), some (.ref 0), some (.ref 95), some (.int x3)] (pR r [.int y0]) N' post)) : wp X (d + 1) k_L_law 0 0 444 [some (.ref 1000000), some (.ref 0), some (.ref 95), some (.int x3)] [.int y0] (mk vi vl) post :=
  wr_aload_n (q := 2) (by decide +kernel) rfl rfl <|
  wr_aload_n (q := 0) (by decide +kernel) rfl rfl <|
  wr_iload_n (q := 3) (by decide +kernel) rfl rfl <|
  wr_iconst (n := 1) (v := (1 : Int32)) (by decide +kernel) (by decide) <|
  wr_iadd (by decide +kernel) <|
  wr_sld q1 (by decide +kernel) <|
  wr_aload_n (q := 0) (by decide +kernel) rfl rfl <|
  wr_iload_n (q := 3) (by decide +kernel) rfl rfl <|
  wr_iconst (n := 2) (v := (2 : Int32)) (by decide +kernel) (by decide) <|
  wr_iadd (by decide +kernel) <|
  wr_sld q2 (by decide +kernel) <|
  wr_invV (a := 95) (ci := 4) (mid2 := 128) (idx := 44) (b1 := 0) (b2 := 0) (c1 := 0) (c2 := 0) (as := [.int (X.2 (x3 + (1 : Int32)).toNatClampNeg), .int (X.2 (x3 + (2 : Int32)).toNatClampNeg)]) (st := [.int y0]) pl_128 rfl (Nat.le_of_ble_eq_true rfl) rfl rfl lq_95 sq_95 (by decide) rfl lm_L_44 im_128 is_128 (by decide +kernel) k1
theorem b_L_law_458 {X : aX} {d : Nat} {post : aO} {vi : Nat → Nat → Int32} {vl : Nat → Nat → Int64} {x3 y0 y1 : Int32} (k1 : y0 = y1 → wp X (d + 1) k_L_law 0 0 1338 [some (.ref 1000000), some (.ref 0), some (.ref 95), some (.int x3)] [] (mk vi vl) post) (k2 : ¬ y0 = y1 → wp X (d + 1) k_L_law 0 0 461 [some (.ref 1000000), some (.ref 0), some (.ref 95), some (.int x3)] [] (mk vi vl) post) : wp X (d + 1) k_L_law 0 0 458 [some (.ref 1000000), some (.ref 0), some (.ref 95), some (.int x3)] [.int y1, .int y0] (mk vi vl) post :=
  wr_icmp_eq (off := 880) (t := 1338) (by decide +kernel) (by decide) k1 k2
theorem b_L_law_461 {X : aX} {d : Nat} {post : aO} {vi : Nat → Nat → Int32} {vl : Nat → Nat → Int64} {x3 : Int32} (k1 : post (some (.int (0 : Int32))) (mk vi vl)) : wp X (d + 1) k_L_law 0 0 461 [some (.ref 1000000), some (.ref 0), some (.ref 95), some (.int x3)] [] (mk vi vl) post :=
  wr_iconst (n := 0) (v := (0 : Int32)) (by decide +kernel) (by decide) <|
  wr_ret (r := some (.int (0 : Int32))) (Or.inr (Or.inl ⟨_, rfl, (by decide +kernel), (Or.inr ⟨rfl, (by decide)⟩)⟩)) k1
theorem b_L_law_463 {X : aX} {d : Nat} {post : aO} {vi : Nat → Nat → Int32} {vl : Nat → Nat → Int64} {x3 : Int32} (q1 : vp_in (x3 + (1 : Int32)) X.1) (q2 : vp_in (x3 + (2 : Int32)) X.1) (q3 : vp_in (x3 + (3 : Int32)) X.1) (k1 : CallOk X d 0 0 k_S_put [.ref 0, .int (X.2 (x3 + (1 : Int32)).toNatClampNeg), .int (X.2 (x3 + (2 : Int32)).toNatClampNeg), .int (X.2 (x3 + (3 : Int32)).toNatClampNeg)] (mk vi vl) (fun r N' => wp X (d + 1) k_L_law 0 0 482 [some (.ref 1000000), some (.ref 0), some (.ref 95), some (.int x3)] (pR r []) N' post)) : wp X (d + 1) k_L_law 0 0 463 [some (.ref 1000000), some (.ref 0), some (.ref 95), some (.int x3)] [] (mk vi vl) post :=
  wr_aload_n (q := 1) (by decide +kernel) rfl rfl <|
  wr_aload_n (q := 0) (by decide +kernel) rfl rfl <|
  wr_iload_n (q := 3) (by decide +kernel) rfl rfl <|
  wr_iconst (n := 1) (v := (1 : Int32)) (by decide +kernel) (by decide) <|
  wr_iadd (by decide +kernel) <|
  wr_sld q1 (by decide +kernel) <|
  wr_aload_n (q := 0) (by decide +kernel) rfl rfl <|
  wr_iload_n (q := 3) (by decide +kernel) rfl rfl <|
  wr_iconst (n := 2) (v := (2 : Int32)) (by decide +kernel) (by decide) <|
  wr_iadd (by decide +kernel) <|
  wr_sld q2 (by decide +kernel) <|
  wr_aload_n (q := 0) (by decide +kernel) rfl rfl <|
  wr_iload_n (q := 3) (by decide +kernel) rfl rfl <|
  wr_iconst (n := 3) (v := (3 : Int32)) (by decide +kernel) (by decide) <|
  wr_iadd (by decide +kernel) <|
  wr_sld q3 (by decide +kernel) <|
  wr_invV (a := 0) (ci := 3) (mid2 := 24) (idx := 45) (b1 := 0) (b2 := 0) (c1 := 0) (c2 := 0) (as := [.int (X.2 (x3 + (1 : Int32)).toNatClampNeg), .int (X.2 (x3 + (2 : Int32)).toNatClampNeg), .int (X.2 (x3 + (3 : Int32)).toNatClampNeg)]) (st := []) pl_24 rfl (Nat.le_of_ble_eq_true rfl) rfl rfl lq_0 sq_0 (by decide) rfl lm_L_45 im_24 is_24 (by decide +kernel) k1
theorem b_L_law_482 {X : aX} {d : Nat} {post : aO} {vi : Nat → Nat → Int32} {vl : Nat → Nat → Int64} {x3 y0 : Int32} (q1 : vp_in (x3 + (1 : Int32)) X.1) (q2 : vp_in (x3 + (2 : Int32)) X.1) (q3 : vp_in (x3 + (3 : Int32)) X.1) (k1 : CallOk X d 0 0 k_M_put [.ref 95, .int (X.2 (x3 + (1 : Int32)).toNatClampNeg), .int (X.2 (x3 + (2 : Int32)).toNatClampNeg), .int (X.2 (x3 + (3 : Int32)).toNatClampNeg)] (mk vi vl) (fun r N' => wp X (d + 1) k_L_law 0 0 501 [some (.ref 1000000), some (.ref 0), some (.ref 95), some (.int x3)] (pR r [.int y0]) N' post)) : wp X (d + 1) k_L_law 0 0 482 [some (.ref 1000000), some (.ref 0), some (.ref 95), some (.int x3)] [.int y0] (mk vi vl) post :=
  wr_aload_n (q := 2) (by decide +kernel) rfl rfl <|
  wr_aload_n (q := 0) (by decide +kernel) rfl rfl <|
  wr_iload_n (q := 3) (by decide +kernel) rfl rfl <|
  wr_iconst (n := 1) (v := (1 : Int32)) (by decide +kernel) (by decide) <|
  wr_iadd (by decide +kernel) <|
  wr_sld q1 (by decide +kernel) <|
  wr_aload_n (q := 0) (by decide +kernel) rfl rfl <|
  wr_iload_n (q := 3) (by decide +kernel) rfl rfl <|
  wr_iconst (n := 2) (v := (2 : Int32)) (by decide +kernel) (by decide) <|
  wr_iadd (by decide +kernel) <|
  wr_sld q2 (by decide +kernel) <|
  wr_aload_n (q := 0) (by decide +kernel) rfl rfl <|
  wr_iload_n (q := 3) (by decide +kernel) rfl rfl <|
  wr_iconst (n := 3) (v := (3 : Int32)) (by decide +kernel) (by decide) <|
  wr_iadd (by decide +kernel) <|
  wr_sld q3 (by decide +kernel) <|
  wr_invV (a := 95) (ci := 4) (mid2 := 130) (idx := 48) (b1 := 0) (b2 := 0) (c1 := 0) (c2 := 0) (as := [.int (X.2 (x3 + (1 : Int32)).toNatClampNeg), .int (X.2 (x3 + (2 : Int32)).toNatClampNeg), .int (X.2 (x3 + (3 : Int32)).toNatClampNeg)]) (st := [.int y0]) pl_130 rfl (Nat.le_of_ble_eq_true rfl) rfl rfl lq_95 sq_95 (by decide) rfl lm_L_48 im_130 is_130 (by decide +kernel) k1
theorem b_L_law_501 {X : aX} {d : Nat} {post : aO} {vi : Nat → Nat → Int32} {vl : Nat → Nat → Int64} {x3 y0 y1 : Int32} (k1 : y0 = y1 → wp X (d + 1) k_L_law 0 0 1338 [some (.ref 1000000), some (.ref 0), some (.ref 95), some (.int x3)] [] (mk vi vl) post) (k2 : ¬ y0 = y1 → wp X (d + 1) k_L_law 0 0 504 [some (.ref 1000000), some (.ref 0), some (.ref 95), some (.int x3)] [] (mk vi vl) post) : wp X (d + 1) k_L_law 0 0 501 [some (.ref 1000000), some (.ref 0), some (.ref 95), some (.int x3)] [.int y1, .int y0] (mk vi vl) post :=
  wr_icmp_eq (off := 837) (t := 1338) (by decide +kernel) (by decide) k1 k2
theorem b_L_law_504 {X : aX} {d : Nat} {post : aO} {vi : Nat → Nat → Int32} {vl : Nat → Nat → Int64} {x3 : Int32} (k1 : post (some (.int (0 : Int32))) (mk vi vl)) : wp X (d + 1) k_L_law 0 0 504 [some (.ref 1000000), some (.ref 0), some (.ref 95), some (.int x3)] [] (mk vi vl) post :=
  wr_iconst (n := 0) (v := (0 : Int32)) (by decide +kernel) (by decide) <|
  wr_ret (r := some (.int (0 : Int32))) (Or.inr (Or.inl ⟨_, rfl, (by decide +kernel), (Or.inr ⟨rfl, (by decide)⟩)⟩)) k1
theorem b_L_law_506 {X : aX} {d : Nat} {post : aO} {vi : Nat → Nat → Int32} {vl : Nat → Nat → Int64} {x3 : Int32} (q1 : vp_in (x3 + (1 : Int32)) X.1) (k1 : CallOk X d 0 0 k_S_fault [.ref 0, .int (X.2 (x3 + (1 : Int32)).toNatClampNeg)] (mk vi vl) (fun r N' => wp X (d + 1) k_L_law 0 0 515 [some (.ref 1000000), some (.ref 0), some (.ref 95), some (.int x3)] (pR r []) N' post)) : wp X (d + 1) k_L_law 0 0 506 [some (.ref 1000000), some (.ref 0), some (.ref 95), some (.int x3)] [] (mk vi vl) post :=
  wr_aload_n (q := 1) (by decide +kernel) rfl rfl <|
  wr_aload_n (q := 0) (by decide +kernel) rfl rfl <|
  wr_iload_n (q := 3) (by decide +kernel) rfl rfl <|
  wr_iconst (n := 1) (v := (1 : Int32)) (by decide +kernel) (by decide) <|
  wr_iadd (by decide +kernel) <|
  wr_sld q1 (by decide +kernel) <|
  wr_invV (a := 0) (ci := 3) (mid2 := 25) (idx := 49) (b1 := 0) (b2 := 0) (c1 := 0) (c2 := 0) (as := [.int (X.2 (x3 + (1 : Int32)).toNatClampNeg)]) (st := []) pl_25 rfl (Nat.le_of_ble_eq_true rfl) rfl rfl lq_0 sq_0 (by decide) rfl lm_L_49 im_25 is_25 (by decide +kernel) k1
theorem b_L_law_515 {X : aX} {d : Nat} {post : aO} {vi : Nat → Nat → Int32} {vl : Nat → Nat → Int64} {x3 y0 : Int32} (q1 : vp_in (x3 + (1 : Int32)) X.1) (k1 : CallOk X d 0 0 k_M_fault [.ref 95, .int (X.2 (x3 + (1 : Int32)).toNatClampNeg)] (mk vi vl) (fun r N' => wp X (d + 1) k_L_law 0 0 524 [some (.ref 1000000), some (.ref 0), some (.ref 95), some (.int x3)] (pR r [.int y0]) N' post)) : wp X (d + 1) k_L_law 0 0 515 [some (.ref 1000000), some (.ref 0), some (.ref 95), some (.int x3)] [.int y0] (mk vi vl) post :=
  wr_aload_n (q := 2) (by decide +kernel) rfl rfl <|
  wr_aload_n (q := 0) (by decide +kernel) rfl rfl <|
  wr_iload_n (q := 3) (by decide +kernel) rfl rfl <|
  wr_iconst (n := 1) (v := (1 : Int32)) (by decide +kernel) (by decide) <|
  wr_iadd (by decide +kernel) <|
  wr_sld q1 (by decide +kernel) <|
  wr_invV (a := 95) (ci := 4) (mid2 := 131) (idx := 52) (b1 := 0) (b2 := 0) (c1 := 0) (c2 := 0) (as := [.int (X.2 (x3 + (1 : Int32)).toNatClampNeg)]) (st := [.int y0]) pl_131 rfl (Nat.le_of_ble_eq_true rfl) rfl rfl lq_95 sq_95 (by decide) rfl lm_L_52 im_131 is_131 (by decide +kernel) k1
theorem b_L_law_524 {X : aX} {d : Nat} {post : aO} {vi : Nat → Nat → Int32} {vl : Nat → Nat → Int64} {x3 y0 y1 : Int32} (k1 : y0 = y1 → wp X (d + 1) k_L_law 0 0 1338 [some (.ref 1000000), some (.ref 0), some (.ref 95), some (.int x3)] [] (mk vi vl) post) (k2 : ¬ y0 = y1 → wp X (d + 1) k_L_law 0 0 527 [some (.ref 1000000), some (.ref 0), some (.ref 95), some (.int x3)] [] (mk vi vl) post) : wp X (d + 1) k_L_law 0 0 524 [some (.ref 1000000), some (.ref 0), some (.ref 95), some (.int x3)] [.int y1, .int y0] (mk vi vl) post :=
  wr_icmp_eq (off := 814) (t := 1338) (by decide +kernel) (by decide) k1 k2
theorem b_L_law_527 {X : aX} {d : Nat} {post : aO} {vi : Nat → Nat → Int32} {vl : Nat → Nat → Int64} {x3 : Int32} (k1 : post (some (.int (0 : Int32))) (mk vi vl)) : wp X (d + 1) k_L_law 0 0 527 [some (.ref 1000000), some (.ref 0), some (.ref 95), some (.int x3)] [] (mk vi vl) post :=
  wr_iconst (n := 0) (v := (0 : Int32)) (by decide +kernel) (by decide) <|
  wr_ret (r := some (.int (0 : Int32))) (Or.inr (Or.inl ⟨_, rfl, (by decide +kernel), (Or.inr ⟨rfl, (by decide)⟩)⟩)) k1
theorem b_L_law_529 {X : aX} {d : Nat} {post : aO} {vi : Nat → Nat → Int32} {vl : Nat → Nat → Int64} {x3 : Int32} (q1 : vp_in (x3 + (1 : Int32)) X.1) (k1 : CallOk X d 0 0 k_S_cloth [.ref 0, .int (X.2 (x3 + (1 : Int32)).toNatClampNeg)] (mk vi vl) (fun r N' => wp X (d + 1) k_L_law 0 0 538 [some (.ref 1000000), some (.ref 0), some (.ref 95), some (.int x3)] (pR r []) N' post)) : wp X (d + 1) k_L_law 0 0 529 [some (.ref 1000000), some (.ref 0), some (.ref 95), some (.int x3)] [] (mk vi vl) post :=
  wr_aload_n (q := 1) (by decide +kernel) rfl rfl <|
  wr_aload_n (q := 0) (by decide +kernel) rfl rfl <|
  wr_iload_n (q := 3) (by decide +kernel) rfl rfl <|
  wr_iconst (n := 1) (v := (1 : Int32)) (by decide +kernel) (by decide) <|
  wr_iadd (by decide +kernel) <|
  wr_sld q1 (by decide +kernel) <|
  wr_invV (a := 0) (ci := 3) (mid2 := 37) (idx := 53) (b1 := 0) (b2 := 0) (c1 := 0) (c2 := 0) (as := [.int (X.2 (x3 + (1 : Int32)).toNatClampNeg)]) (st := []) pl_37 rfl (Nat.le_of_ble_eq_true rfl) rfl rfl lq_0 sq_0 (by decide) rfl lm_L_53 im_37 is_37 (by decide +kernel) k1
theorem b_L_law_538 {X : aX} {d : Nat} {post : aO} {vi : Nat → Nat → Int32} {vl : Nat → Nat → Int64} {x3 y0 : Int32} (q1 : vp_in (x3 + (1 : Int32)) X.1) (k1 : CallOk X d 0 0 k_M_cloth [.ref 95, .int (X.2 (x3 + (1 : Int32)).toNatClampNeg)] (mk vi vl) (fun r N' => wp X (d + 1) k_L_law 0 0 547 [some (.ref 1000000), some (.ref 0), some (.ref 95), some (.int x3)] (pR r [.int y0]) N' post)) : wp X (d + 1) k_L_law 0 0 538 [some (.ref 1000000), some (.ref 0), some (.ref 95), some (.int x3)] [.int y0] (mk vi vl) post :=
  wr_aload_n (q := 2) (by decide +kernel) rfl rfl <|
  wr_aload_n (q := 0) (by decide +kernel) rfl rfl <|
  wr_iload_n (q := 3) (by decide +kernel) rfl rfl <|
  wr_iconst (n := 1) (v := (1 : Int32)) (by decide +kernel) (by decide) <|
  wr_iadd (by decide +kernel) <|
  wr_sld q1 (by decide +kernel) <|
  wr_invV (a := 95) (ci := 4) (mid2 := 140) (idx := 56) (b1 := 0) (b2 := 0) (c1 := 0) (c2 := 0) (as := [.int (X.2 (x3 + (1 : Int32)).toNatClampNeg)]) (st := [.int y0]) pl_140 rfl (Nat.le_of_ble_eq_true rfl) rfl rfl lq_95 sq_95 (by decide) rfl lm_L_56 im_140 is_140 (by decide +kernel) k1
theorem b_L_law_547 {X : aX} {d : Nat} {post : aO} {vi : Nat → Nat → Int32} {vl : Nat → Nat → Int64} {x3 y0 y1 : Int32} (k1 : y0 = y1 → wp X (d + 1) k_L_law 0 0 1338 [some (.ref 1000000), some (.ref 0), some (.ref 95), some (.int x3)] [] (mk vi vl) post) (k2 : ¬ y0 = y1 → wp X (d + 1) k_L_law 0 0 550 [some (.ref 1000000), some (.ref 0), some (.ref 95), some (.int x3)] [] (mk vi vl) post) : wp X (d + 1) k_L_law 0 0 547 [some (.ref 1000000), some (.ref 0), some (.ref 95), some (.int x3)] [.int y1, .int y0] (mk vi vl) post :=
  wr_icmp_eq (off := 791) (t := 1338) (by decide +kernel) (by decide) k1 k2
theorem b_L_law_550 {X : aX} {d : Nat} {post : aO} {vi : Nat → Nat → Int32} {vl : Nat → Nat → Int64} {x3 : Int32} (k1 : post (some (.int (0 : Int32))) (mk vi vl)) : wp X (d + 1) k_L_law 0 0 550 [some (.ref 1000000), some (.ref 0), some (.ref 95), some (.int x3)] [] (mk vi vl) post :=
  wr_iconst (n := 0) (v := (0 : Int32)) (by decide +kernel) (by decide) <|
  wr_ret (r := some (.int (0 : Int32))) (Or.inr (Or.inl ⟨_, rfl, (by decide +kernel), (Or.inr ⟨rfl, (by decide)⟩)⟩)) k1
theorem b_L_law_552 {X : aX} {d : Nat} {post : aO} {vi : Nat → Nat → Int32} {vl : Nat → Nat → Int64} {x3 : Int32} (q1 : vp_in (x3 + (1 : Int32)) X.1) (q2 : vp_in (x3 + (2 : Int32)) X.1) (k1 : CallOk X d 0 0 k_S_year [.ref 0, .int (X.2 (x3 + (1 : Int32)).toNatClampNeg), .int (X.2 (x3 + (2 : Int32)).toNatClampNeg)] (mk vi vl) (fun r N' => wp X (d + 1) k_L_law 0 0 566 [some (.ref 1000000), some (.ref 0), some (.ref 95), some (.int x3)] (pR r []) N' post)) : wp X (d + 1) k_L_law 0 0 552 [some (.ref 1000000), some (.ref 0), some (.ref 95), some (.int x3)] [] (mk vi vl) post :=
  wr_aload_n (q := 1) (by decide +kernel) rfl rfl <|
  wr_aload_n (q := 0) (by decide +kernel) rfl rfl <|
  wr_iload_n (q := 3) (by decide +kernel) rfl rfl <|
  wr_iconst (n := 1) (v := (1 : Int32)) (by decide +kernel) (by decide) <|
  wr_iadd (by decide +kernel) <|
  wr_sld q1 (by decide +kernel) <|
  wr_aload_n (q := 0) (by decide +kernel) rfl rfl <|
  wr_iload_n (q := 3) (by decide +kernel) rfl rfl <|
  wr_iconst (n := 2) (v := (2 : Int32)) (by decide +kernel) (by decide) <|
  wr_iadd (by decide +kernel) <|
  wr_sld q2 (by decide +kernel) <|
  wr_invV (a := 0) (ci := 3) (mid2 := 44) (idx := 57) (b1 := 0) (b2 := 0) (c1 := 0) (c2 := 0) (as := [.int (X.2 (x3 + (1 : Int32)).toNatClampNeg), .int (X.2 (x3 + (2 : Int32)).toNatClampNeg)]) (st := []) pl_44 rfl (Nat.le_of_ble_eq_true rfl) rfl rfl lq_0 sq_0 (by decide) rfl lm_L_57 im_44 is_44 (by decide +kernel) k1
theorem b_L_law_566 {X : aX} {d : Nat} {post : aO} {vi : Nat → Nat → Int32} {vl : Nat → Nat → Int64} {x3 y0 : Int32} (q1 : vp_in (x3 + (1 : Int32)) X.1) (q2 : vp_in (x3 + (2 : Int32)) X.1) (k1 : CallOk X d 0 0 k_M_year [.ref 95, .int (X.2 (x3 + (1 : Int32)).toNatClampNeg), .int (X.2 (x3 + (2 : Int32)).toNatClampNeg)] (mk vi vl) (fun r N' => wp X (d + 1) k_L_law 0 0 580 [some (.ref 1000000), some (.ref 0), some (.ref 95), some (.int x3)] (pR r [.int y0]) N' post)) : wp X (d + 1) k_L_law 0 0 566 [some (.ref 1000000), some (.ref 0), some (.ref 95), some (.int x3)] [.int y0] (mk vi vl) post :=
  wr_aload_n (q := 2) (by decide +kernel) rfl rfl <|
  wr_aload_n (q := 0) (by decide +kernel) rfl rfl <|
  wr_iload_n (q := 3) (by decide +kernel) rfl rfl <|
  wr_iconst (n := 1) (v := (1 : Int32)) (by decide +kernel) (by decide) <|
  wr_iadd (by decide +kernel) <|
  wr_sld q1 (by decide +kernel) <|
  wr_aload_n (q := 0) (by decide +kernel) rfl rfl <|
  wr_iload_n (q := 3) (by decide +kernel) rfl rfl <|
  wr_iconst (n := 2) (v := (2 : Int32)) (by decide +kernel) (by decide) <|
  wr_iadd (by decide +kernel) <|
  wr_sld q2 (by decide +kernel) <|
  wr_invV (a := 95) (ci := 4) (mid2 := 142) (idx := 60) (b1 := 0) (b2 := 0) (c1 := 0) (c2 := 0) (as := [.int (X.2 (x3 + (1 : Int32)).toNatClampNeg), .int (X.2 (x3 + (2 : Int32)).toNatClampNeg)]) (st := [.int y0]) pl_142 rfl (Nat.le_of_ble_eq_true rfl) rfl rfl lq_95 sq_95 (by decide) rfl lm_L_60 im_142 is_142 (by decide +kernel) k1
theorem b_L_law_580 {X : aX} {d : Nat} {post : aO} {vi : Nat → Nat → Int32} {vl : Nat → Nat → Int64} {x3 y0 y1 : Int32} (k1 : y0 = y1 → wp X (d + 1) k_L_law 0 0 1338 [some (.ref 1000000), some (.ref 0), some (.ref 95), some (.int x3)] [] (mk vi vl) post) (k2 : ¬ y0 = y1 → wp X (d + 1) k_L_law 0 0 583 [some (.ref 1000000), some (.ref 0), some (.ref 95), some (.int x3)] [] (mk vi vl) post) : wp X (d + 1) k_L_law 0 0 580 [some (.ref 1000000), some (.ref 0), some (.ref 95), some (.int x3)] [.int y1, .int y0] (mk vi vl) post :=
  wr_icmp_eq (off := 758) (t := 1338) (by decide +kernel) (by decide) k1 k2
theorem b_L_law_583 {X : aX} {d : Nat} {post : aO} {vi : Nat → Nat → Int32} {vl : Nat → Nat → Int64} {x3 : Int32} (k1 : post (some (.int (0 : Int32))) (mk vi vl)) : wp X (d + 1) k_L_law 0 0 583 [some (.ref 1000000), some (.ref 0), some (.ref 95), some (.int x3)] [] (mk vi vl) post :=
  wr_iconst (n := 0) (v := (0 : Int32)) (by decide +kernel) (by decide) <|
  wr_ret (r := some (.int (0 : Int32))) (Or.inr (Or.inl ⟨_, rfl, (by decide +kernel), (Or.inr ⟨rfl, (by decide)⟩)⟩)) k1
theorem b_L_law_585 {X : aX} {d : Nat} {post : aO} {vi : Nat → Nat → Int32} {vl : Nat → Nat → Int64} {x3 : Int32} (q1 : vp_in (x3 + (1 : Int32)) X.1) (q2 : vp_in (x3 + (2 : Int32)) X.1) (k1 : CallOk X d 0 0 k_S_law [.ref 0, .int (X.2 (x3 + (1 : Int32)).toNatClampNeg), .int (X.2 (x3 + (2 : Int32)).toNatClampNeg)] (mk vi vl) (fun r N' => wp X (d + 1) k_L_law 0 0 599 [some (.ref 1000000), some (.ref 0), some (.ref 95), some (.int x3)] (pR r []) N' post)) : wp X (d + 1) k_L_law 0 0 585 [some (.ref 1000000), some (.ref 0), some (.ref 95), some (.int x3)] [] (mk vi vl) post :=
  wr_aload_n (q := 1) (by decide +kernel) rfl rfl <|
  wr_aload_n (q := 0) (by decide +kernel) rfl rfl <|
  wr_iload_n (q := 3) (by decide +kernel) rfl rfl <|
  wr_iconst (n := 1) (v := (1 : Int32)) (by decide +kernel) (by decide) <|
  wr_iadd (by decide +kernel) <|
  wr_sld q1 (by decide +kernel) <|
  wr_aload_n (q := 0) (by decide +kernel) rfl rfl <|
  wr_iload_n (q := 3) (by decide +kernel) rfl rfl <|
  wr_iconst (n := 2) (v := (2 : Int32)) (by decide +kernel) (by decide) <|
  wr_iadd (by decide +kernel) <|
  wr_sld q2 (by decide +kernel) <|
  wr_invV (a := 0) (ci := 3) (mid2 := 47) (idx := 61) (b1 := 0) (b2 := 0) (c1 := 0) (c2 := 0) (as := [.int (X.2 (x3 + (1 : Int32)).toNatClampNeg), .int (X.2 (x3 + (2 : Int32)).toNatClampNeg)]) (st := []) pl_47 rfl (Nat.le_of_ble_eq_true rfl) rfl rfl lq_0 sq_0 (by decide) rfl lm_L_61 im_47 is_47 (by decide +kernel) k1
theorem b_L_law_599 {X : aX} {d : Nat} {post : aO} {vi : Nat → Nat → Int32} {vl : Nat → Nat → Int64} {x3 y0 : Int32} (q1 : vp_in (x3 + (1 : Int32)) X.1) (q2 : vp_in (x3 + (2 : Int32)) X.1) (k1 : CallOk X d 0 0 k_M_law [.ref 95, .int (X.2 (x3 + (1 : Int32)).toNatClampNeg), .int (X.2 (x3 + (2 : Int32)).toNatClampNeg)] (mk vi vl) (fun r N' => wp X (d + 1) k_L_law 0 0 613 [some (.ref 1000000), some (.ref 0), some (.ref 95), some (.int x3)] (pR r [.int y0]) N' post)) : wp X (d + 1) k_L_law 0 0 599 [some (.ref 1000000), some (.ref 0), some (.ref 95), some (.int x3)] [.int y0] (mk vi vl) post :=
  wr_aload_n (q := 2) (by decide +kernel) rfl rfl <|
  wr_aload_n (q := 0) (by decide +kernel) rfl rfl <|
  wr_iload_n (q := 3) (by decide +kernel) rfl rfl <|
  wr_iconst (n := 1) (v := (1 : Int32)) (by decide +kernel) (by decide) <|
  wr_iadd (by decide +kernel) <|
  wr_sld q1 (by decide +kernel) <|
  wr_aload_n (q := 0) (by decide +kernel) rfl rfl <|
  wr_iload_n (q := 3) (by decide +kernel) rfl rfl <|
  wr_iconst (n := 2) (v := (2 : Int32)) (by decide +kernel) (by decide) <|
  wr_iadd (by decide +kernel) <|
  wr_sld q2 (by decide +kernel) <|
  wr_invV (a := 95) (ci := 4) (mid2 := 148) (idx := 64) (b1 := 0) (b2 := 0) (c1 := 0) (c2 := 0) (as := [.int (X.2 (x3 + (1 : Int32)).toNatClampNeg), .int (X.2 (x3 + (2 : Int32)).toNatClampNeg)]) (st := [.int y0]) pl_148 rfl (Nat.le_of_ble_eq_true rfl) rfl rfl lq_95 sq_95 (by decide) rfl lm_L_64 im_148 is_148 (by decide +kernel) k1
theorem b_L_law_613 {X : aX} {d : Nat} {post : aO} {vi : Nat → Nat → Int32} {vl : Nat → Nat → Int64} {x3 y0 y1 : Int32} (k1 : y0 = y1 → wp X (d + 1) k_L_law 0 0 1338 [some (.ref 1000000), some (.ref 0), some (.ref 95), some (.int x3)] [] (mk vi vl) post) (k2 : ¬ y0 = y1 → wp X (d + 1) k_L_law 0 0 616 [some (.ref 1000000), some (.ref 0), some (.ref 95), some (.int x3)] [] (mk vi vl) post) : wp X (d + 1) k_L_law 0 0 613 [some (.ref 1000000), some (.ref 0), some (.ref 95), some (.int x3)] [.int y1, .int y0] (mk vi vl) post :=
  wr_icmp_eq (off := 725) (t := 1338) (by decide +kernel) (by decide) k1 k2
theorem b_L_law_616 {X : aX} {d : Nat} {post : aO} {vi : Nat → Nat → Int32} {vl : Nat → Nat → Int64} {x3 : Int32} (k1 : post (some (.int (0 : Int32))) (mk vi vl)) : wp X (d + 1) k_L_law 0 0 616 [some (.ref 1000000), some (.ref 0), some (.ref 95), some (.int x3)] [] (mk vi vl) post :=
  wr_iconst (n := 0) (v := (0 : Int32)) (by decide +kernel) (by decide) <|
  wr_ret (r := some (.int (0 : Int32))) (Or.inr (Or.inl ⟨_, rfl, (by decide +kernel), (Or.inr ⟨rfl, (by decide)⟩)⟩)) k1
theorem b_L_law_618 {X : aX} {d : Nat} {post : aO} {vi : Nat → Nat → Int32} {vl : Nat → Nat → Int64} {x3 : Int32} (q1 : vp_in (x3 + (1 : Int32)) X.1) (q2 : vp_in (x3 + (2 : Int32)) X.1) (k1 : CallOk X d 0 0 k_S_mark [.ref 0, .int (X.2 (x3 + (1 : Int32)).toNatClampNeg), .int (X.2 (x3 + (2 : Int32)).toNatClampNeg)] (mk vi vl) (fun r N' => wp X (d + 1) k_L_law 0 0 632 [some (.ref 1000000), some (.ref 0), some (.ref 95), some (.int x3)] (pR r []) N' post)) : wp X (d + 1) k_L_law 0 0 618 [some (.ref 1000000), some (.ref 0), some (.ref 95), some (.int x3)] [] (mk vi vl) post :=
  wr_aload_n (q := 1) (by decide +kernel) rfl rfl <|
  wr_aload_n (q := 0) (by decide +kernel) rfl rfl <|
  wr_iload_n (q := 3) (by decide +kernel) rfl rfl <|
  wr_iconst (n := 1) (v := (1 : Int32)) (by decide +kernel) (by decide) <|
  wr_iadd (by decide +kernel) <|
  wr_sld q1 (by decide +kernel) <|
  wr_aload_n (q := 0) (by decide +kernel) rfl rfl <|
  wr_iload_n (q := 3) (by decide +kernel) rfl rfl <|
  wr_iconst (n := 2) (v := (2 : Int32)) (by decide +kernel) (by decide) <|
  wr_iadd (by decide +kernel) <|
  wr_sld q2 (by decide +kernel) <|
  wr_invV (a := 0) (ci := 3) (mid2 := 53) (idx := 65) (b1 := 0) (b2 := 0) (c1 := 0) (c2 := 0) (as := [.int (X.2 (x3 + (1 : Int32)).toNatClampNeg), .int (X.2 (x3 + (2 : Int32)).toNatClampNeg)]) (st := []) pl_53 rfl (Nat.le_of_ble_eq_true rfl) rfl rfl lq_0 sq_0 (by decide) rfl lm_L_65 im_53 is_53 (by decide +kernel) k1
theorem b_L_law_632 {X : aX} {d : Nat} {post : aO} {vi : Nat → Nat → Int32} {vl : Nat → Nat → Int64} {x3 y0 : Int32} (q1 : vp_in (x3 + (1 : Int32)) X.1) (q2 : vp_in (x3 + (2 : Int32)) X.1) (k1 : CallOk X d 0 0 k_M_mark [.ref 95, .int (X.2 (x3 + (1 : Int32)).toNatClampNeg), .int (X.2 (x3 + (2 : Int32)).toNatClampNeg)] (mk vi vl) (fun r N' => wp X (d + 1) k_L_law 0 0 646 [some (.ref 1000000), some (.ref 0), some (.ref 95), some (.int x3)] (pR r [.int y0]) N' post)) : wp X (d + 1) k_L_law 0 0 632 [some (.ref 1000000), some (.ref 0), some (.ref 95), some (.int x3)] [.int y0] (mk vi vl) post :=
  wr_aload_n (q := 2) (by decide +kernel) rfl rfl <|
  wr_aload_n (q := 0) (by decide +kernel) rfl rfl <|
  wr_iload_n (q := 3) (by decide +kernel) rfl rfl <|
  wr_iconst (n := 1) (v := (1 : Int32)) (by decide +kernel) (by decide) <|
  wr_iadd (by decide +kernel) <|
  wr_sld q1 (by decide +kernel) <|
  wr_aload_n (q := 0) (by decide +kernel) rfl rfl <|
  wr_iload_n (q := 3) (by decide +kernel) rfl rfl <|
  wr_iconst (n := 2) (v := (2 : Int32)) (by decide +kernel) (by decide) <|
  wr_iadd (by decide +kernel) <|
  wr_sld q2 (by decide +kernel) <|
  wr_invV (a := 95) (ci := 4) (mid2 := 154) (idx := 68) (b1 := 0) (b2 := 0) (c1 := 0) (c2 := 0) (as := [.int (X.2 (x3 + (1 : Int32)).toNatClampNeg), .int (X.2 (x3 + (2 : Int32)).toNatClampNeg)]) (st := [.int y0]) pl_154 rfl (Nat.le_of_ble_eq_true rfl) rfl rfl lq_95 sq_95 (by decide) rfl lm_L_68 im_154 is_154 (by decide +kernel) k1
theorem b_L_law_646 {X : aX} {d : Nat} {post : aO} {vi : Nat → Nat → Int32} {vl : Nat → Nat → Int64} {x3 y0 y1 : Int32} (k1 : y0 = y1 → wp X (d + 1) k_L_law 0 0 1338 [some (.ref 1000000), some (.ref 0), some (.ref 95), some (.int x3)] [] (mk vi vl) post) (k2 : ¬ y0 = y1 → wp X (d + 1) k_L_law 0 0 649 [some (.ref 1000000), some (.ref 0), some (.ref 95), some (.int x3)] [] (mk vi vl) post) : wp X (d + 1) k_L_law 0 0 646 [some (.ref 1000000), some (.ref 0), some (.ref 95), some (.int x3)] [.int y1, .int y0] (mk vi vl) post :=
  wr_icmp_eq (off := 692) (t := 1338) (by decide +kernel) (by decide) k1 k2
theorem b_L_law_649 {X : aX} {d : Nat} {post : aO} {vi : Nat → Nat → Int32} {vl : Nat → Nat → Int64} {x3 : Int32} (k1 : post (some (.int (0 : Int32))) (mk vi vl)) : wp X (d + 1) k_L_law 0 0 649 [some (.ref 1000000), some (.ref 0), some (.ref 95), some (.int x3)] [] (mk vi vl) post :=
  wr_iconst (n := 0) (v := (0 : Int32)) (by decide +kernel) (by decide) <|
  wr_ret (r := some (.int (0 : Int32))) (Or.inr (Or.inl ⟨_, rfl, (by decide +kernel), (Or.inr ⟨rfl, (by decide)⟩)⟩)) k1
theorem b_L_law_651 {X : aX} {d : Nat} {post : aO} {vi : Nat → Nat → Int32} {vl : Nat → Nat → Int64} {x3 : Int32} (q1 : vp_in (x3 + (1 : Int32)) X.1) (q2 : vp_in (x3 + (2 : Int32)) X.1) (k1 : CallOk X d 0 0 k_S_end [.ref 0, .int (X.2 (x3 + (1 : Int32)).toNatClampNeg), .int (X.2 (x3 + (2 : Int32)).toNatClampNeg)] (mk vi vl) (fun r N' => wp X (d + 1) k_L_law 0 0 665 [some (.ref 1000000), some (.ref 0), some (.ref 95), some (.int x3)] (pR r []) N' post)) : wp X (d + 1) k_L_law 0 0 651 [some (.ref 1000000), some (.ref 0), some (.ref 95), some (.int x3)] [] (mk vi vl) post :=
  wr_aload_n (q := 1) (by decide +kernel) rfl rfl <|
  wr_aload_n (q := 0) (by decide +kernel) rfl rfl <|
  wr_iload_n (q := 3) (by decide +kernel) rfl rfl <|
  wr_iconst (n := 1) (v := (1 : Int32)) (by decide +kernel) (by decide) <|
  wr_iadd (by decide +kernel) <|
  wr_sld q1 (by decide +kernel) <|
  wr_aload_n (q := 0) (by decide +kernel) rfl rfl <|
  wr_iload_n (q := 3) (by decide +kernel) rfl rfl <|
  wr_iconst (n := 2) (v := (2 : Int32)) (by decide +kernel) (by decide) <|
  wr_iadd (by decide +kernel) <|
  wr_sld q2 (by decide +kernel) <|
  wr_invV (a := 0) (ci := 3) (mid2 := 57) (idx := 69) (b1 := 0) (b2 := 0) (c1 := 0) (c2 := 0) (as := [.int (X.2 (x3 + (1 : Int32)).toNatClampNeg), .int (X.2 (x3 + (2 : Int32)).toNatClampNeg)]) (st := []) pl_57 rfl (Nat.le_of_ble_eq_true rfl) rfl rfl lq_0 sq_0 (by decide) rfl lm_L_69 im_57 is_57 (by decide +kernel) k1
theorem b_L_law_665 {X : aX} {d : Nat} {post : aO} {vi : Nat → Nat → Int32} {vl : Nat → Nat → Int64} {x3 y0 : Int32} (q1 : vp_in (x3 + (1 : Int32)) X.1) (q2 : vp_in (x3 + (2 : Int32)) X.1) (k1 : CallOk X d 0 0 k_M_end [.ref 95, .int (X.2 (x3 + (1 : Int32)).toNatClampNeg), .int (X.2 (x3 + (2 : Int32)).toNatClampNeg)] (mk vi vl) (fun r N' => wp X (d + 1) k_L_law 0 0 679 [some (.ref 1000000), some (.ref 0), some (.ref 95), some (.int x3)] (pR r [.int y0]) N' post)) : wp X (d + 1) k_L_law 0 0 665 [some (.ref 1000000), some (.ref 0), some (.ref 95), some (.int x3)] [.int y0] (mk vi vl) post :=
  wr_aload_n (q := 2) (by decide +kernel) rfl rfl <|
  wr_aload_n (q := 0) (by decide +kernel) rfl rfl <|
  wr_iload_n (q := 3) (by decide +kernel) rfl rfl <|
  wr_iconst (n := 1) (v := (1 : Int32)) (by decide +kernel) (by decide) <|
  wr_iadd (by decide +kernel) <|
  wr_sld q1 (by decide +kernel) <|
  wr_aload_n (q := 0) (by decide +kernel) rfl rfl <|
  wr_iload_n (q := 3) (by decide +kernel) rfl rfl <|
  wr_iconst (n := 2) (v := (2 : Int32)) (by decide +kernel) (by decide) <|
  wr_iadd (by decide +kernel) <|
  wr_sld q2 (by decide +kernel) <|
  wr_invV (a := 95) (ci := 4) (mid2 := 156) (idx := 72) (b1 := 0) (b2 := 0) (c1 := 0) (c2 := 0) (as := [.int (X.2 (x3 + (1 : Int32)).toNatClampNeg), .int (X.2 (x3 + (2 : Int32)).toNatClampNeg)]) (st := [.int y0]) pl_156 rfl (Nat.le_of_ble_eq_true rfl) rfl rfl lq_95 sq_95 (by decide) rfl lm_L_72 im_156 is_156 (by decide +kernel) k1
theorem b_L_law_679 {X : aX} {d : Nat} {post : aO} {vi : Nat → Nat → Int32} {vl : Nat → Nat → Int64} {x3 y0 y1 : Int32} (k1 : y0 = y1 → wp X (d + 1) k_L_law 0 0 1338 [some (.ref 1000000), some (.ref 0), some (.ref 95), some (.int x3)] [] (mk vi vl) post) (k2 : ¬ y0 = y1 → wp X (d + 1) k_L_law 0 0 682 [some (.ref 1000000), some (.ref 0), some (.ref 95), some (.int x3)] [] (mk vi vl) post) : wp X (d + 1) k_L_law 0 0 679 [some (.ref 1000000), some (.ref 0), some (.ref 95), some (.int x3)] [.int y1, .int y0] (mk vi vl) post :=
  wr_icmp_eq (off := 659) (t := 1338) (by decide +kernel) (by decide) k1 k2
theorem b_L_law_682 {X : aX} {d : Nat} {post : aO} {vi : Nat → Nat → Int32} {vl : Nat → Nat → Int64} {x3 : Int32} (k1 : post (some (.int (0 : Int32))) (mk vi vl)) : wp X (d + 1) k_L_law 0 0 682 [some (.ref 1000000), some (.ref 0), some (.ref 95), some (.int x3)] [] (mk vi vl) post :=
  wr_iconst (n := 0) (v := (0 : Int32)) (by decide +kernel) (by decide) <|
  wr_ret (r := some (.int (0 : Int32))) (Or.inr (Or.inl ⟨_, rfl, (by decide +kernel), (Or.inr ⟨rfl, (by decide)⟩)⟩)) k1
theorem b_L_law_684 {X : aX} {d : Nat} {post : aO} {vi : Nat → Nat → Int32} {vl : Nat → Nat → Int64} {x3 : Int32} (q1 : vp_in (x3 + (1 : Int32)) X.1) (q2 : vp_in (x3 + (2 : Int32)) X.1) (k1 : CallOk X d 0 0 k_S_sew [.ref 0, .int (X.2 (x3 + (1 : Int32)).toNatClampNeg), .int (X.2 (x3 + (2 : Int32)).toNatClampNeg)] (mk vi vl) (fun r N' => wp X (d + 1) k_L_law 0 0 698 [some (.ref 1000000), some (.ref 0), some (.ref 95), some (.int x3)] (pR r []) N' post)) : wp X (d + 1) k_L_law 0 0 684 [some (.ref 1000000), some (.ref 0), some (.ref 95), some (.int x3)] [] (mk vi vl) post :=
  wr_aload_n (q := 1) (by decide +kernel) rfl rfl <|
  wr_aload_n (q := 0) (by decide +kernel) rfl rfl <|
  wr_iload_n (q := 3) (by decide +kernel) rfl rfl <|
  wr_iconst (n := 1) (v := (1 : Int32)) (by decide +kernel) (by decide) <|
  wr_iadd (by decide +kernel) <|
  wr_sld q1 (by decide +kernel) <|
  wr_aload_n (q := 0) (by decide +kernel) rfl rfl <|
  wr_iload_n (q := 3) (by decide +kernel) rfl rfl <|
  wr_iconst (n := 2) (v := (2 : Int32)) (by decide +kernel) (by decide) <|
  wr_iadd (by decide +kernel) <|
  wr_sld q2 (by decide +kernel) <|
  wr_invV (a := 0) (ci := 3) (mid2 := 58) (idx := 73) (b1 := 0) (b2 := 0) (c1 := 0) (c2 := 0) (as := [.int (X.2 (x3 + (1 : Int32)).toNatClampNeg), .int (X.2 (x3 + (2 : Int32)).toNatClampNeg)]) (st := []) pl_58 rfl (Nat.le_of_ble_eq_true rfl) rfl rfl lq_0 sq_0 (by decide) rfl lm_L_73 im_58 is_58 (by decide +kernel) k1
theorem b_L_law_698 {X : aX} {d : Nat} {post : aO} {vi : Nat → Nat → Int32} {vl : Nat → Nat → Int64} {x3 y0 : Int32} (q1 : vp_in (x3 + (1 : Int32)) X.1) (q2 : vp_in (x3 + (2 : Int32)) X.1) (k1 : CallOk X d 0 0 k_M_sew [.ref 95, .int (X.2 (x3 + (1 : Int32)).toNatClampNeg), .int (X.2 (x3 + (2 : Int32)).toNatClampNeg)] (mk vi vl) (fun r N' => wp X (d + 1) k_L_law 0 0 712 [some (.ref 1000000), some (.ref 0), some (.ref 95), some (.int x3)] (pR r [.int y0]) N' post)) : wp X (d + 1) k_L_law 0 0 698 [some (.ref 1000000), some (.ref 0), some (.ref 95), some (.int x3)] [.int y0] (mk vi vl) post :=
  wr_aload_n (q := 2) (by decide +kernel) rfl rfl <|
  wr_aload_n (q := 0) (by decide +kernel) rfl rfl <|
  wr_iload_n (q := 3) (by decide +kernel) rfl rfl <|
  wr_iconst (n := 1) (v := (1 : Int32)) (by decide +kernel) (by decide) <|
  wr_iadd (by decide +kernel) <|
  wr_sld q1 (by decide +kernel) <|
  wr_aload_n (q := 0) (by decide +kernel) rfl rfl <|
  wr_iload_n (q := 3) (by decide +kernel) rfl rfl <|
  wr_iconst (n := 2) (v := (2 : Int32)) (by decide +kernel) (by decide) <|
  wr_iadd (by decide +kernel) <|
  wr_sld q2 (by decide +kernel) <|
  wr_invV (a := 95) (ci := 4) (mid2 := 158) (idx := 76) (b1 := 0) (b2 := 0) (c1 := 0) (c2 := 0) (as := [.int (X.2 (x3 + (1 : Int32)).toNatClampNeg), .int (X.2 (x3 + (2 : Int32)).toNatClampNeg)]) (st := [.int y0]) pl_158 rfl (Nat.le_of_ble_eq_true rfl) rfl rfl lq_95 sq_95 (by decide) rfl lm_L_76 im_158 is_158 (by decide +kernel) k1
theorem b_L_law_712 {X : aX} {d : Nat} {post : aO} {vi : Nat → Nat → Int32} {vl : Nat → Nat → Int64} {x3 y0 y1 : Int32} (k1 : y0 = y1 → wp X (d + 1) k_L_law 0 0 1338 [some (.ref 1000000), some (.ref 0), some (.ref 95), some (.int x3)] [] (mk vi vl) post) (k2 : ¬ y0 = y1 → wp X (d + 1) k_L_law 0 0 715 [some (.ref 1000000), some (.ref 0), some (.ref 95), some (.int x3)] [] (mk vi vl) post) : wp X (d + 1) k_L_law 0 0 712 [some (.ref 1000000), some (.ref 0), some (.ref 95), some (.int x3)] [.int y1, .int y0] (mk vi vl) post :=
  wr_icmp_eq (off := 626) (t := 1338) (by decide +kernel) (by decide) k1 k2
theorem b_L_law_715 {X : aX} {d : Nat} {post : aO} {vi : Nat → Nat → Int32} {vl : Nat → Nat → Int64} {x3 : Int32} (k1 : post (some (.int (0 : Int32))) (mk vi vl)) : wp X (d + 1) k_L_law 0 0 715 [some (.ref 1000000), some (.ref 0), some (.ref 95), some (.int x3)] [] (mk vi vl) post :=
  wr_iconst (n := 0) (v := (0 : Int32)) (by decide +kernel) (by decide) <|
  wr_ret (r := some (.int (0 : Int32))) (Or.inr (Or.inl ⟨_, rfl, (by decide +kernel), (Or.inr ⟨rfl, (by decide)⟩)⟩)) k1
theorem b_L_law_717 {X : aX} {d : Nat} {post : aO} {vi : Nat → Nat → Int32} {vl : Nat → Nat → Int64} {x3 : Int32} (q1 : vp_in (x3 + (1 : Int32)) X.1) (k1 : CallOk X d 0 0 k_S_unpick [.ref 0, .int (X.2 (x3 + (1 : Int32)).toNatClampNeg)] (mk vi vl) (fun r N' => wp X (d + 1) k_L_law 0 0 726 [some (.ref 1000000), some (.ref 0), some (.ref 95), some (.int x3)] (pR r []) N' post)) : wp X (d + 1) k_L_law 0 0 717 [some (.ref 1000000), some (.ref 0), some (.ref 95), some (.int x3)] [] (mk vi vl) post :=
  wr_aload_n (q := 1) (by decide +kernel) rfl rfl <|
  wr_aload_n (q := 0) (by decide +kernel) rfl rfl <|
  wr_iload_n (q := 3) (by decide +kernel) rfl rfl <|
  wr_iconst (n := 1) (v := (1 : Int32)) (by decide +kernel) (by decide) <|
  wr_iadd (by decide +kernel) <|
  wr_sld q1 (by decide +kernel) <|
  wr_invV (a := 0) (ci := 3) (mid2 := 64) (idx := 77) (b1 := 0) (b2 := 0) (c1 := 0) (c2 := 0) (as := [.int (X.2 (x3 + (1 : Int32)).toNatClampNeg)]) (st := []) pl_64 rfl (Nat.le_of_ble_eq_true rfl) rfl rfl lq_0 sq_0 (by decide) rfl lm_L_77 im_64 is_64 (by decide +kernel) k1
theorem b_L_law_726 {X : aX} {d : Nat} {post : aO} {vi : Nat → Nat → Int32} {vl : Nat → Nat → Int64} {x3 y0 : Int32} (q1 : vp_in (x3 + (1 : Int32)) X.1) (k1 : CallOk X d 0 0 k_M_unpick [.ref 95, .int (X.2 (x3 + (1 : Int32)).toNatClampNeg)] (mk vi vl) (fun r N' => wp X (d + 1) k_L_law 0 0 735 [some (.ref 1000000), some (.ref 0), some (.ref 95), some (.int x3)] (pR r [.int y0]) N' post)) : wp X (d + 1) k_L_law 0 0 726 [some (.ref 1000000), some (.ref 0), some (.ref 95), some (.int x3)] [.int y0] (mk vi vl) post :=
  wr_aload_n (q := 2) (by decide +kernel) rfl rfl <|
  wr_aload_n (q := 0) (by decide +kernel) rfl rfl <|
  wr_iload_n (q := 3) (by decide +kernel) rfl rfl <|
  wr_iconst (n := 1) (v := (1 : Int32)) (by decide +kernel) (by decide) <|
  wr_iadd (by decide +kernel) <|
  wr_sld q1 (by decide +kernel) <|
  wr_invV (a := 95) (ci := 4) (mid2 := 162) (idx := 80) (b1 := 0) (b2 := 0) (c1 := 0) (c2 := 0) (as := [.int (X.2 (x3 + (1 : Int32)).toNatClampNeg)]) (st := [.int y0]) pl_162 rfl (Nat.le_of_ble_eq_true rfl) rfl rfl lq_95 sq_95 (by decide) rfl lm_L_80 im_162 is_162 (by decide +kernel) k1
theorem b_L_law_735 {X : aX} {d : Nat} {post : aO} {vi : Nat → Nat → Int32} {vl : Nat → Nat → Int64} {x3 y0 y1 : Int32} (k1 : y0 = y1 → wp X (d + 1) k_L_law 0 0 1338 [some (.ref 1000000), some (.ref 0), some (.ref 95), some (.int x3)] [] (mk vi vl) post) (k2 : ¬ y0 = y1 → wp X (d + 1) k_L_law 0 0 738 [some (.ref 1000000), some (.ref 0), some (.ref 95), some (.int x3)] [] (mk vi vl) post) : wp X (d + 1) k_L_law 0 0 735 [some (.ref 1000000), some (.ref 0), some (.ref 95), some (.int x3)] [.int y1, .int y0] (mk vi vl) post :=
  wr_icmp_eq (off := 603) (t := 1338) (by decide +kernel) (by decide) k1 k2
theorem b_L_law_738 {X : aX} {d : Nat} {post : aO} {vi : Nat → Nat → Int32} {vl : Nat → Nat → Int64} {x3 : Int32} (k1 : post (some (.int (0 : Int32))) (mk vi vl)) : wp X (d + 1) k_L_law 0 0 738 [some (.ref 1000000), some (.ref 0), some (.ref 95), some (.int x3)] [] (mk vi vl) post :=
  wr_iconst (n := 0) (v := (0 : Int32)) (by decide +kernel) (by decide) <|
  wr_ret (r := some (.int (0 : Int32))) (Or.inr (Or.inl ⟨_, rfl, (by decide +kernel), (Or.inr ⟨rfl, (by decide)⟩)⟩)) k1
theorem b_L_law_740 {X : aX} {d : Nat} {post : aO} {vi : Nat → Nat → Int32} {vl : Nat → Nat → Int64} {x3 : Int32} (q1 : vp_in (x3 + (1 : Int32)) X.1) (k1 : CallOk X d 0 0 k_S_undo [.ref 0, .int (X.2 (x3 + (1 : Int32)).toNatClampNeg)] (mk vi vl) (fun r N' => wp X (d + 1) k_L_law 0 0 749 [some (.ref 1000000), some (.ref 0), some (.ref 95), some (.int x3)] (pR r []) N' post)) : wp X (d + 1) k_L_law 0 0 740 [some (.ref 1000000), some (.ref 0), some (.ref 95), some (.int x3)] [] (mk vi vl) post :=
  wr_aload_n (q := 1) (by decide +kernel) rfl rfl <|
  wr_aload_n (q := 0) (by decide +kernel) rfl rfl <|
  wr_iload_n (q := 3) (by decide +kernel) rfl rfl <|
  wr_iconst (n := 1) (v := (1 : Int32)) (by decide +kernel) (by decide) <|
  wr_iadd (by decide +kernel) <|
  wr_sld q1 (by decide +kernel) <|
  wr_invV (a := 0) (ci := 3) (mid2 := 65) (idx := 81) (b1 := 0) (b2 := 0) (c1 := 0) (c2 := 0) (as := [.int (X.2 (x3 + (1 : Int32)).toNatClampNeg)]) (st := []) pl_65 rfl (Nat.le_of_ble_eq_true rfl) rfl rfl lq_0 sq_0 (by decide) rfl lm_L_81 im_65 is_65 (by decide +kernel) k1
theorem b_L_law_749 {X : aX} {d : Nat} {post : aO} {vi : Nat → Nat → Int32} {vl : Nat → Nat → Int64} {x3 y0 : Int32} (q1 : vp_in (x3 + (1 : Int32)) X.1) (k1 : CallOk X d 0 0 k_M_undo [.ref 95, .int (X.2 (x3 + (1 : Int32)).toNatClampNeg)] (mk vi vl) (fun r N' => wp X (d + 1) k_L_law 0 0 758 [some (.ref 1000000), some (.ref 0), some (.ref 95), some (.int x3)] (pR r [.int y0]) N' post)) : wp X (d + 1) k_L_law 0 0 749 [some (.ref 1000000), some (.ref 0), some (.ref 95), some (.int x3)] [.int y0] (mk vi vl) post :=
  wr_aload_n (q := 2) (by decide +kernel) rfl rfl <|
  wr_aload_n (q := 0) (by decide +kernel) rfl rfl <|
  wr_iload_n (q := 3) (by decide +kernel) rfl rfl <|
  wr_iconst (n := 1) (v := (1 : Int32)) (by decide +kernel) (by decide) <|
  wr_iadd (by decide +kernel) <|
  wr_sld q1 (by decide +kernel) <|
  wr_invV (a := 95) (ci := 4) (mid2 := 163) (idx := 84) (b1 := 0) (b2 := 0) (c1 := 0) (c2 := 0) (as := [.int (X.2 (x3 + (1 : Int32)).toNatClampNeg)]) (st := [.int y0]) pl_163 rfl (Nat.le_of_ble_eq_true rfl) rfl rfl lq_95 sq_95 (by decide) rfl lm_L_84 im_163 is_163 (by decide +kernel) k1
theorem b_L_law_758 {X : aX} {d : Nat} {post : aO} {vi : Nat → Nat → Int32} {vl : Nat → Nat → Int64} {x3 y0 y1 : Int32} (k1 : y0 = y1 → wp X (d + 1) k_L_law 0 0 1338 [some (.ref 1000000), some (.ref 0), some (.ref 95), some (.int x3)] [] (mk vi vl) post) (k2 : ¬ y0 = y1 → wp X (d + 1) k_L_law 0 0 761 [some (.ref 1000000), some (.ref 0), some (.ref 95), some (.int x3)] [] (mk vi vl) post) : wp X (d + 1) k_L_law 0 0 758 [some (.ref 1000000), some (.ref 0), some (.ref 95), some (.int x3)] [.int y1, .int y0] (mk vi vl) post :=
  wr_icmp_eq (off := 580) (t := 1338) (by decide +kernel) (by decide) k1 k2
theorem b_L_law_761 {X : aX} {d : Nat} {post : aO} {vi : Nat → Nat → Int32} {vl : Nat → Nat → Int64} {x3 : Int32} (k1 : post (some (.int (0 : Int32))) (mk vi vl)) : wp X (d + 1) k_L_law 0 0 761 [some (.ref 1000000), some (.ref 0), some (.ref 95), some (.int x3)] [] (mk vi vl) post :=
  wr_iconst (n := 0) (v := (0 : Int32)) (by decide +kernel) (by decide) <|
  wr_ret (r := some (.int (0 : Int32))) (Or.inr (Or.inl ⟨_, rfl, (by decide +kernel), (Or.inr ⟨rfl, (by decide)⟩)⟩)) k1
theorem b_L_law_763 {X : aX} {d : Nat} {post : aO} {vi : Nat → Nat → Int32} {vl : Nat → Nat → Int64} {x3 : Int32} (q1 : vp_in (x3 + (1 : Int32)) X.1) (k1 : CallOk X d 0 0 k_S_keep [.ref 0, .int (X.2 (x3 + (1 : Int32)).toNatClampNeg)] (mk vi vl) (fun r N' => wp X (d + 1) k_L_law 0 0 772 [some (.ref 1000000), some (.ref 0), some (.ref 95), some (.int x3)] (pR r []) N' post)) : wp X (d + 1) k_L_law 0 0 763 [some (.ref 1000000), some (.ref 0), some (.ref 95), some (.int x3)] [] (mk vi vl) post :=
  wr_aload_n (q := 1) (by decide +kernel) rfl rfl <|
  wr_aload_n (q := 0) (by decide +kernel) rfl rfl <|
  wr_iload_n (q := 3) (by decide +kernel) rfl rfl <|
  wr_iconst (n := 1) (v := (1 : Int32)) (by decide +kernel) (by decide) <|
  wr_iadd (by decide +kernel) <|
  wr_sld q1 (by decide +kernel) <|
  wr_invV (a := 0) (ci := 3) (mid2 := 67) (idx := 85) (b1 := 0) (b2 := 0) (c1 := 0) (c2 := 0) (as := [.int (X.2 (x3 + (1 : Int32)).toNatClampNeg)]) (st := []) pl_67 rfl (Nat.le_of_ble_eq_true rfl) rfl rfl lq_0 sq_0 (by decide) rfl lm_L_85 im_67 is_67 (by decide +kernel) k1
theorem b_L_law_772 {X : aX} {d : Nat} {post : aO} {vi : Nat → Nat → Int32} {vl : Nat → Nat → Int64} {x3 y0 : Int32} (q1 : vp_in (x3 + (1 : Int32)) X.1) (k1 : CallOk X d 0 0 k_M_keep [.ref 95, .int (X.2 (x3 + (1 : Int32)).toNatClampNeg)] (mk vi vl) (fun r N' => wp X (d + 1) k_L_law 0 0 781 [some (.ref 1000000), some (.ref 0), some (.ref 95), some (.int x3)] (pR r [.int y0]) N' post)) : wp X (d + 1) k_L_law 0 0 772 [some (.ref 1000000), some (.ref 0), some (.ref 95), some (.int x3)] [.int y0] (mk vi vl) post :=
  wr_aload_n (q := 2) (by decide +kernel) rfl rfl <|
  wr_aload_n (q := 0) (by decide +kernel) rfl rfl <|
  wr_iload_n (q := 3) (by decide +kernel) rfl rfl <|
  wr_iconst (n := 1) (v := (1 : Int32)) (by decide +kernel) (by decide) <|
  wr_iadd (by decide +kernel) <|
  wr_sld q1 (by decide +kernel) <|
  wr_invV (a := 95) (ci := 4) (mid2 := 164) (idx := 88) (b1 := 0) (b2 := 0) (c1 := 0) (c2 := 0) (as := [.int (X.2 (x3 + (1 : Int32)).toNatClampNeg)]) (st := [.int y0]) pl_164 rfl (Nat.le_of_ble_eq_true rfl) rfl rfl lq_95 sq_95 (by decide) rfl lm_L_88 im_164 is_164 (by decide +kernel) k1
theorem b_L_law_781 {X : aX} {d : Nat} {post : aO} {vi : Nat → Nat → Int32} {vl : Nat → Nat → Int64} {x3 y0 y1 : Int32} (k1 : y0 = y1 → wp X (d + 1) k_L_law 0 0 1338 [some (.ref 1000000), some (.ref 0), some (.ref 95), some (.int x3)] [] (mk vi vl) post) (k2 : ¬ y0 = y1 → wp X (d + 1) k_L_law 0 0 784 [some (.ref 1000000), some (.ref 0), some (.ref 95), some (.int x3)] [] (mk vi vl) post) : wp X (d + 1) k_L_law 0 0 781 [some (.ref 1000000), some (.ref 0), some (.ref 95), some (.int x3)] [.int y1, .int y0] (mk vi vl) post :=
  wr_icmp_eq (off := 557) (t := 1338) (by decide +kernel) (by decide) k1 k2
theorem b_L_law_784 {X : aX} {d : Nat} {post : aO} {vi : Nat → Nat → Int32} {vl : Nat → Nat → Int64} {x3 : Int32} (k1 : post (some (.int (0 : Int32))) (mk vi vl)) : wp X (d + 1) k_L_law 0 0 784 [some (.ref 1000000), some (.ref 0), some (.ref 95), some (.int x3)] [] (mk vi vl) post :=
  wr_iconst (n := 0) (v := (0 : Int32)) (by decide +kernel) (by decide) <|
  wr_ret (r := some (.int (0 : Int32))) (Or.inr (Or.inl ⟨_, rfl, (by decide +kernel), (Or.inr ⟨rfl, (by decide)⟩)⟩)) k1
theorem b_L_law_786 {X : aX} {d : Nat} {post : aO} {vi : Nat → Nat → Int32} {vl : Nat → Nat → Int64} {x3 : Int32} (q1 : vp_in (x3 + (1 : Int32)) X.1) (k1 : CallOk X d 0 0 k_S_on [.ref 0, .int (X.2 (x3 + (1 : Int32)).toNatClampNeg)] (mk vi vl) (fun r N' => wp X (d + 1) k_L_law 0 0 795 [some (.ref 1000000), some (.ref 0), some (.ref 95), some (.int x3)] (pR r []) N' post)) : wp X (d + 1) k_L_law 0 0 786 [some (.ref 1000000), some (.ref 0), some (.ref 95), some (.int x3)] [] (mk vi vl) post :=
  wr_aload_n (q := 1) (by decide +kernel) rfl rfl <|
  wr_aload_n (q := 0) (by decide +kernel) rfl rfl <|
  wr_iload_n (q := 3) (by decide +kernel) rfl rfl <|
  wr_iconst (n := 1) (v := (1 : Int32)) (by decide +kernel) (by decide) <|
  wr_iadd (by decide +kernel) <|
  wr_sld q1 (by decide +kernel) <|
  wr_invV (a := 0) (ci := 3) (mid2 := 69) (idx := 89) (b1 := 0) (b2 := 0) (c1 := 0) (c2 := 0) (as := [.int (X.2 (x3 + (1 : Int32)).toNatClampNeg)]) (st := []) pl_69 rfl (Nat.le_of_ble_eq_true rfl) rfl rfl lq_0 sq_0 (by decide) rfl lm_L_89 im_69 is_69 (by decide +kernel) k1
theorem b_L_law_795 {X : aX} {d : Nat} {post : aO} {vi : Nat → Nat → Int32} {vl : Nat → Nat → Int64} {x3 y0 : Int32} (q1 : vp_in (x3 + (1 : Int32)) X.1) (k1 : CallOk X d 0 0 k_M_on [.ref 95, .int (X.2 (x3 + (1 : Int32)).toNatClampNeg)] (mk vi vl) (fun r N' => wp X (d + 1) k_L_law 0 0 804 [some (.ref 1000000), some (.ref 0), some (.ref 95), some (.int x3)] (pR r [.int y0]) N' post)) : wp X (d + 1) k_L_law 0 0 795 [some (.ref 1000000), some (.ref 0), some (.ref 95), some (.int x3)] [.int y0] (mk vi vl) post :=
  wr_aload_n (q := 2) (by decide +kernel) rfl rfl <|
  wr_aload_n (q := 0) (by decide +kernel) rfl rfl <|
  wr_iload_n (q := 3) (by decide +kernel) rfl rfl <|
  wr_iconst (n := 1) (v := (1 : Int32)) (by decide +kernel) (by decide) <|
  wr_iadd (by decide +kernel) <|
  wr_sld q1 (by decide +kernel) <|
  wr_invV (a := 95) (ci := 4) (mid2 := 165) (idx := 92) (b1 := 0) (b2 := 0) (c1 := 0) (c2 := 0) (as := [.int (X.2 (x3 + (1 : Int32)).toNatClampNeg)]) (st := [.int y0]) pl_165 rfl (Nat.le_of_ble_eq_true rfl) rfl rfl lq_95 sq_95 (by decide) rfl lm_L_92 im_165 is_165 (by decide +kernel) k1
theorem b_L_law_804 {X : aX} {d : Nat} {post : aO} {vi : Nat → Nat → Int32} {vl : Nat → Nat → Int64} {x3 y0 y1 : Int32} (k1 : y0 = y1 → wp X (d + 1) k_L_law 0 0 1338 [some (.ref 1000000), some (.ref 0), some (.ref 95), some (.int x3)] [] (mk vi vl) post) (k2 : ¬ y0 = y1 → wp X (d + 1) k_L_law 0 0 807 [some (.ref 1000000), some (.ref 0), some (.ref 95), some (.int x3)] [] (mk vi vl) post) : wp X (d + 1) k_L_law 0 0 804 [some (.ref 1000000), some (.ref 0), some (.ref 95), some (.int x3)] [.int y1, .int y0] (mk vi vl) post :=
  wr_icmp_eq (off := 534) (t := 1338) (by decide +kernel) (by decide) k1 k2
theorem b_L_law_807 {X : aX} {d : Nat} {post : aO} {vi : Nat → Nat → Int32} {vl : Nat → Nat → Int64} {x3 : Int32} (k1 : post (some (.int (0 : Int32))) (mk vi vl)) : wp X (d + 1) k_L_law 0 0 807 [some (.ref 1000000), some (.ref 0), some (.ref 95), some (.int x3)] [] (mk vi vl) post :=
  wr_iconst (n := 0) (v := (0 : Int32)) (by decide +kernel) (by decide) <|
  wr_ret (r := some (.int (0 : Int32))) (Or.inr (Or.inl ⟨_, rfl, (by decide +kernel), (Or.inr ⟨rfl, (by decide)⟩)⟩)) k1
theorem b_L_law_809 {X : aX} {d : Nat} {post : aO} {vi : Nat → Nat → Int32} {vl : Nat → Nat → Int64} {x3 : Int32} (q1 : vp_in (x3 + (1 : Int32)) X.1) (k1 : CallOk X d 0 0 k_S_happens [.ref 0, .int (X.2 (x3 + (1 : Int32)).toNatClampNeg)] (mk vi vl) (fun r N' => wp X (d + 1) k_L_law 0 0 818 [some (.ref 1000000), some (.ref 0), some (.ref 95), some (.int x3)] (pR r []) N' post)) : wp X (d + 1) k_L_law 0 0 809 [some (.ref 1000000), some (.ref 0), some (.ref 95), some (.int x3)] [] (mk vi vl) post :=
  wr_aload_n (q := 1) (by decide +kernel) rfl rfl <|
  wr_aload_n (q := 0) (by decide +kernel) rfl rfl <|
  wr_iload_n (q := 3) (by decide +kernel) rfl rfl <|
  wr_iconst (n := 1) (v := (1 : Int32)) (by decide +kernel) (by decide) <|
  wr_iadd (by decide +kernel) <|
  wr_sld q1 (by decide +kernel) <|
  wr_invV (a := 0) (ci := 3) (mid2 := 70) (idx := 93) (b1 := 0) (b2 := 0) (c1 := 0) (c2 := 0) (as := [.int (X.2 (x3 + (1 : Int32)).toNatClampNeg)]) (st := []) pl_70 rfl (Nat.le_of_ble_eq_true rfl) rfl rfl lq_0 sq_0 (by decide) rfl lm_L_93 im_70 is_70 (by decide +kernel) k1
theorem b_L_law_818 {X : aX} {d : Nat} {post : aO} {vi : Nat → Nat → Int32} {vl : Nat → Nat → Int64} {x3 y0 : Int32} (q1 : vp_in (x3 + (1 : Int32)) X.1) (k1 : CallOk X d 0 0 k_M_happens [.ref 95, .int (X.2 (x3 + (1 : Int32)).toNatClampNeg)] (mk vi vl) (fun r N' => wp X (d + 1) k_L_law 0 0 827 [some (.ref 1000000), some (.ref 0), some (.ref 95), some (.int x3)] (pR r [.int y0]) N' post)) : wp X (d + 1) k_L_law 0 0 818 [some (.ref 1000000), some (.ref 0), some (.ref 95), some (.int x3)] [.int y0] (mk vi vl) post :=
  wr_aload_n (q := 2) (by decide +kernel) rfl rfl <|
  wr_aload_n (q := 0) (by decide +kernel) rfl rfl <|
  wr_iload_n (q := 3) (by decide +kernel) rfl rfl <|
  wr_iconst (n := 1) (v := (1 : Int32)) (by decide +kernel) (by decide) <|
  wr_iadd (by decide +kernel) <|
  wr_sld q1 (by decide +kernel) <|
  wr_invV (a := 95) (ci := 4) (mid2 := 166) (idx := 96) (b1 := 0) (b2 := 0) (c1 := 0) (c2 := 0) (as := [.int (X.2 (x3 + (1 : Int32)).toNatClampNeg)]) (st := [.int y0]) pl_166 rfl (Nat.le_of_ble_eq_true rfl) rfl rfl lq_95 sq_95 (by decide) rfl lm_L_96 im_166 is_166 (by decide +kernel) k1
theorem b_L_law_827 {X : aX} {d : Nat} {post : aO} {vi : Nat → Nat → Int32} {vl : Nat → Nat → Int64} {x3 y0 y1 : Int32} (k1 : y0 = y1 → wp X (d + 1) k_L_law 0 0 1338 [some (.ref 1000000), some (.ref 0), some (.ref 95), some (.int x3)] [] (mk vi vl) post) (k2 : ¬ y0 = y1 → wp X (d + 1) k_L_law 0 0 830 [some (.ref 1000000), some (.ref 0), some (.ref 95), some (.int x3)] [] (mk vi vl) post) : wp X (d + 1) k_L_law 0 0 827 [some (.ref 1000000), some (.ref 0), some (.ref 95), some (.int x3)] [.int y1, .int y0] (mk vi vl) post :=
  wr_icmp_eq (off := 511) (t := 1338) (by decide +kernel) (by decide) k1 k2
theorem b_L_law_830 {X : aX} {d : Nat} {post : aO} {vi : Nat → Nat → Int32} {vl : Nat → Nat → Int64} {x3 : Int32} (k1 : post (some (.int (0 : Int32))) (mk vi vl)) : wp X (d + 1) k_L_law 0 0 830 [some (.ref 1000000), some (.ref 0), some (.ref 95), some (.int x3)] [] (mk vi vl) post :=
  wr_iconst (n := 0) (v := (0 : Int32)) (by decide +kernel) (by decide) <|
  wr_ret (r := some (.int (0 : Int32))) (Or.inr (Or.inl ⟨_, rfl, (by decide +kernel), (Or.inr ⟨rfl, (by decide)⟩)⟩)) k1
theorem b_L_law_832 {X : aX} {d : Nat} {post : aO} {vi : Nat → Nat → Int32} {vl : Nat → Nat → Int64} {x3 : Int32} (q1 : vp_in (x3 + (1 : Int32)) X.1) (k1 : CallOk X d 0 0 k_S_by [.ref 0, .int (X.2 (x3 + (1 : Int32)).toNatClampNeg)] (mk vi vl) (fun r N' => wp X (d + 1) k_L_law 0 0 841 [some (.ref 1000000), some (.ref 0), some (.ref 95), some (.int x3)] (pR r []) N' post)) : wp X (d + 1) k_L_law 0 0 832 [some (.ref 1000000), some (.ref 0), some (.ref 95), some (.int x3)] [] (mk vi vl) post :=
  wr_aload_n (q := 1) (by decide +kernel) rfl rfl <|
  wr_aload_n (q := 0) (by decide +kernel) rfl rfl <|
  wr_iload_n (q := 3) (by decide +kernel) rfl rfl <|
  wr_iconst (n := 1) (v := (1 : Int32)) (by decide +kernel) (by decide) <|
  wr_iadd (by decide +kernel) <|
  wr_sld q1 (by decide +kernel) <|
  wr_invV (a := 0) (ci := 3) (mid2 := 71) (idx := 97) (b1 := 0) (b2 := 0) (c1 := 0) (c2 := 0) (as := [.int (X.2 (x3 + (1 : Int32)).toNatClampNeg)]) (st := []) pl_71 rfl (Nat.le_of_ble_eq_true rfl) rfl rfl lq_0 sq_0 (by decide) rfl lm_L_97 im_71 is_71 (by decide +kernel) k1
theorem b_L_law_841 {X : aX} {d : Nat} {post : aO} {vi : Nat → Nat → Int32} {vl : Nat → Nat → Int64} {x3 y0 : Int32} (q1 : vp_in (x3 + (1 : Int32)) X.1) (k1 : CallOk X d 0 0 k_M_by [.ref 95, .int (X.2 (x3 + (1 : Int32)).toNatClampNeg)] (mk vi vl) (fun r N' => wp X (d + 1) k_L_law 0 0 850 [some (.ref 1000000), some (.ref 0), some (.ref 95), some (.int x3)] (pR r [.int y0]) N' post)) : wp X (d + 1) k_L_law 0 0 841 [some (.ref 1000000), some (.ref 0), some (.ref 95), some (.int x3)] [.int y0] (mk vi vl) post :=
  wr_aload_n (q := 2) (by decide +kernel) rfl rfl <|
  wr_aload_n (q := 0) (by decide +kernel) rfl rfl <|
  wr_iload_n (q := 3) (by decide +kernel) rfl rfl <|
  wr_iconst (n := 1) (v := (1 : Int32)) (by decide +kernel) (by decide) <|
  wr_iadd (by decide +kernel) <|
  wr_sld q1 (by decide +kernel) <|
  wr_invV (a := 95) (ci := 4) (mid2 := 167) (idx := 100) (b1 := 0) (b2 := 0) (c1 := 0) (c2 := 0) (as := [.int (X.2 (x3 + (1 : Int32)).toNatClampNeg)]) (st := [.int y0]) pl_167 rfl (Nat.le_of_ble_eq_true rfl) rfl rfl lq_95 sq_95 (by decide) rfl lm_L_100 im_167 is_167 (by decide +kernel) k1
theorem b_L_law_850 {X : aX} {d : Nat} {post : aO} {vi : Nat → Nat → Int32} {vl : Nat → Nat → Int64} {x3 y0 y1 : Int32} (k1 : y0 = y1 → wp X (d + 1) k_L_law 0 0 1338 [some (.ref 1000000), some (.ref 0), some (.ref 95), some (.int x3)] [] (mk vi vl) post) (k2 : ¬ y0 = y1 → wp X (d + 1) k_L_law 0 0 853 [some (.ref 1000000), some (.ref 0), some (.ref 95), some (.int x3)] [] (mk vi vl) post) : wp X (d + 1) k_L_law 0 0 850 [some (.ref 1000000), some (.ref 0), some (.ref 95), some (.int x3)] [.int y1, .int y0] (mk vi vl) post :=
  wr_icmp_eq (off := 488) (t := 1338) (by decide +kernel) (by decide) k1 k2
theorem b_L_law_853 {X : aX} {d : Nat} {post : aO} {vi : Nat → Nat → Int32} {vl : Nat → Nat → Int64} {x3 : Int32} (k1 : post (some (.int (0 : Int32))) (mk vi vl)) : wp X (d + 1) k_L_law 0 0 853 [some (.ref 1000000), some (.ref 0), some (.ref 95), some (.int x3)] [] (mk vi vl) post :=
  wr_iconst (n := 0) (v := (0 : Int32)) (by decide +kernel) (by decide) <|
  wr_ret (r := some (.int (0 : Int32))) (Or.inr (Or.inl ⟨_, rfl, (by decide +kernel), (Or.inr ⟨rfl, (by decide)⟩)⟩)) k1
theorem b_L_law_855 {X : aX} {d : Nat} {post : aO} {vi : Nat → Nat → Int32} {vl : Nat → Nat → Int64} {x3 : Int32} (k1 : CallOk X d 0 0 k_S_broken [.ref 0] (mk vi vl) (fun r N' => wp X (d + 1) k_L_law 0 0 859 [some (.ref 1000000), some (.ref 0), some (.ref 95), some (.int x3)] (pR r []) N' post)) : wp X (d + 1) k_L_law 0 0 855 [some (.ref 1000000), some (.ref 0), some (.ref 95), some (.int x3)] [] (mk vi vl) post :=
  wr_aload_n (q := 1) (by decide +kernel) rfl rfl <|
  wr_invV (a := 0) (ci := 3) (mid2 := 72) (idx := 101) (b1 := 0) (b2 := 0) (c1 := 0) (c2 := 0) (as := []) (st := []) pl_72 rfl (Nat.le_of_ble_eq_true rfl) rfl rfl lq_0 sq_0 (by decide) rfl lm_L_101 im_72 is_72 (by decide +kernel) k1
theorem b_L_law_859 {X : aX} {d : Nat} {post : aO} {vi : Nat → Nat → Int32} {vl : Nat → Nat → Int64} {x3 y0 : Int32} (k1 : CallOk X d 0 0 k_M_broken [.ref 95] (mk vi vl) (fun r N' => wp X (d + 1) k_L_law 0 0 863 [some (.ref 1000000), some (.ref 0), some (.ref 95), some (.int x3)] (pR r [.int y0]) N' post)) : wp X (d + 1) k_L_law 0 0 859 [some (.ref 1000000), some (.ref 0), some (.ref 95), some (.int x3)] [.int y0] (mk vi vl) post :=
  wr_aload_n (q := 2) (by decide +kernel) rfl rfl <|
  wr_invV (a := 95) (ci := 4) (mid2 := 168) (idx := 105) (b1 := 0) (b2 := 0) (c1 := 0) (c2 := 0) (as := []) (st := [.int y0]) pl_168 rfl (Nat.le_of_ble_eq_true rfl) rfl rfl lq_95 sq_95 (by decide) rfl lm_L_105 im_168 is_168 (by decide +kernel) k1
theorem b_L_law_863 {X : aX} {d : Nat} {post : aO} {vi : Nat → Nat → Int32} {vl : Nat → Nat → Int64} {x3 y0 y1 : Int32} (k1 : y0 = y1 → wp X (d + 1) k_L_law 0 0 1338 [some (.ref 1000000), some (.ref 0), some (.ref 95), some (.int x3)] [] (mk vi vl) post) (k2 : ¬ y0 = y1 → wp X (d + 1) k_L_law 0 0 866 [some (.ref 1000000), some (.ref 0), some (.ref 95), some (.int x3)] [] (mk vi vl) post) : wp X (d + 1) k_L_law 0 0 863 [some (.ref 1000000), some (.ref 0), some (.ref 95), some (.int x3)] [.int y1, .int y0] (mk vi vl) post :=
  wr_icmp_eq (off := 475) (t := 1338) (by decide +kernel) (by decide) k1 k2
theorem b_L_law_866 {X : aX} {d : Nat} {post : aO} {vi : Nat → Nat → Int32} {vl : Nat → Nat → Int64} {x3 : Int32} (k1 : post (some (.int (0 : Int32))) (mk vi vl)) : wp X (d + 1) k_L_law 0 0 866 [some (.ref 1000000), some (.ref 0), some (.ref 95), some (.int x3)] [] (mk vi vl) post :=
  wr_iconst (n := 0) (v := (0 : Int32)) (by decide +kernel) (by decide) <|
  wr_ret (r := some (.int (0 : Int32))) (Or.inr (Or.inl ⟨_, rfl, (by decide +kernel), (Or.inr ⟨rfl, (by decide)⟩)⟩)) k1
theorem b_L_law_868 {X : aX} {d : Nat} {post : aO} {vi : Nat → Nat → Int32} {vl : Nat → Nat → Int64} {x3 : Int32} (q1 : vp_in (x3 + (1 : Int32)) X.1) (k1 : CallOk X d 0 0 k_S_can [.ref 0, .int (X.2 (x3 + (1 : Int32)).toNatClampNeg)] (mk vi vl) (fun r N' => wp X (d + 1) k_L_law 0 0 877 [some (.ref 1000000), some (.ref 0), some (.ref 95), some (.int x3)] (pR r []) N' post)) : wp X (d + 1) k_L_law 0 0 868 [some (.ref 1000000), some (.ref 0), some (.ref 95), some (.int x3)] [] (mk vi vl) post :=
  wr_aload_n (q := 1) (by decide +kernel) rfl rfl <|
  wr_aload_n (q := 0) (by decide +kernel) rfl rfl <|
  wr_iload_n (q := 3) (by decide +kernel) rfl rfl <|
  wr_iconst (n := 1) (v := (1 : Int32)) (by decide +kernel) (by decide) <|
  wr_iadd (by decide +kernel) <|
  wr_sld q1 (by decide +kernel) <|
  wr_invV (a := 0) (ci := 3) (mid2 := 75) (idx := 106) (b1 := 0) (b2 := 0) (c1 := 0) (c2 := 0) (as := [.int (X.2 (x3 + (1 : Int32)).toNatClampNeg)]) (st := []) pl_75 rfl (Nat.le_of_ble_eq_true rfl) rfl rfl lq_0 sq_0 (by decide) rfl lm_L_106 im_75 is_75 (by decide +kernel) k1
theorem b_L_law_877 {X : aX} {d : Nat} {post : aO} {vi : Nat → Nat → Int32} {vl : Nat → Nat → Int64} {x3 y0 : Int32} (q1 : vp_in (x3 + (1 : Int32)) X.1) (k1 : CallOk X d 0 0 k_M_can [.ref 95, .int (X.2 (x3 + (1 : Int32)).toNatClampNeg)] (mk vi vl) (fun r N' => wp X (d + 1) k_L_law 0 0 886 [some (.ref 1000000), some (.ref 0), some (.ref 95), some (.int x3)] (pR r [.int y0]) N' post)) : wp X (d + 1) k_L_law 0 0 877 [some (.ref 1000000), some (.ref 0), some (.ref 95), some (.int x3)] [.int y0] (mk vi vl) post :=
  wr_aload_n (q := 2) (by decide +kernel) rfl rfl <|
  wr_aload_n (q := 0) (by decide +kernel) rfl rfl <|
  wr_iload_n (q := 3) (by decide +kernel) rfl rfl <|
  wr_iconst (n := 1) (v := (1 : Int32)) (by decide +kernel) (by decide) <|
  wr_iadd (by decide +kernel) <|
  wr_sld q1 (by decide +kernel) <|
  wr_invV (a := 95) (ci := 4) (mid2 := 170) (idx := 109) (b1 := 0) (b2 := 0) (c1 := 0) (c2 := 0) (as := [.int (X.2 (x3 + (1 : Int32)).toNatClampNeg)]) (st := [.int y0]) pl_170 rfl (Nat.le_of_ble_eq_true rfl) rfl rfl lq_95 sq_95 (by decide) rfl lm_L_109 im_170 is_170 (by decide +kernel) k1
theorem b_L_law_886 {X : aX} {d : Nat} {post : aO} {vi : Nat → Nat → Int32} {vl : Nat → Nat → Int64} {x3 y0 y1 : Int32} (k1 : y0 = y1 → wp X (d + 1) k_L_law 0 0 1338 [some (.ref 1000000), some (.ref 0), some (.ref 95), some (.int x3)] [] (mk vi vl) post) (k2 : ¬ y0 = y1 → wp X (d + 1) k_L_law 0 0 889 [some (.ref 1000000), some (.ref 0), some (.ref 95), some (.int x3)] [] (mk vi vl) post) : wp X (d + 1) k_L_law 0 0 886 [some (.ref 1000000), some (.ref 0), some (.ref 95), some (.int x3)] [.int y1, .int y0] (mk vi vl) post :=
  wr_icmp_eq (off := 452) (t := 1338) (by decide +kernel) (by decide) k1 k2
theorem b_L_law_889 {X : aX} {d : Nat} {post : aO} {vi : Nat → Nat → Int32} {vl : Nat → Nat → Int64} {x3 : Int32} (k1 : post (some (.int (0 : Int32))) (mk vi vl)) : wp X (d + 1) k_L_law 0 0 889 [some (.ref 1000000), some (.ref 0), some (.ref 95), some (.int x3)] [] (mk vi vl) post :=
  wr_iconst (n := 0) (v := (0 : Int32)) (by decide +kernel) (by decide) <|
  wr_ret (r := some (.int (0 : Int32))) (Or.inr (Or.inl ⟨_, rfl, (by decide +kernel), (Or.inr ⟨rfl, (by decide)⟩)⟩)) k1
theorem b_L_law_891 {X : aX} {d : Nat} {post : aO} {vi : Nat → Nat → Int32} {vl : Nat → Nat → Int64} {x3 : Int32} (q1 : vp_in (x3 + (1 : Int32)) X.1) (k1 : CallOk X d 0 0 k_S_safe [.ref 0, .int (X.2 (x3 + (1 : Int32)).toNatClampNeg)] (mk vi vl) (fun r N' => wp X (d + 1) k_L_law 0 0 900 [some (.ref 1000000), some (.ref 0), some (.ref 95), some (.int x3)] (pR r []) N' post)) : wp X (d + 1) k_L_law 0 0 891 [some (.ref 1000000), some (.ref 0), some (.ref 95), some (.int x3)] [] (mk vi vl) post :=
  wr_aload_n (q := 1) (by decide +kernel) rfl rfl <|
  wr_aload_n (q := 0) (by decide +kernel) rfl rfl <|
  wr_iload_n (q := 3) (by decide +kernel) rfl rfl <|
  wr_iconst (n := 1) (v := (1 : Int32)) (by decide +kernel) (by decide) <|
  wr_iadd (by decide +kernel) <|
  wr_sld q1 (by decide +kernel) <|
  wr_invV (a := 0) (ci := 3) (mid2 := 76) (idx := 110) (b1 := 0) (b2 := 0) (c1 := 0) (c2 := 0) (as := [.int (X.2 (x3 + (1 : Int32)).toNatClampNeg)]) (st := []) pl_76 rfl (Nat.le_of_ble_eq_true rfl) rfl rfl lq_0 sq_0 (by decide) rfl lm_L_110 im_76 is_76 (by decide +kernel) k1
theorem b_L_law_900 {X : aX} {d : Nat} {post : aO} {vi : Nat → Nat → Int32} {vl : Nat → Nat → Int64} {x3 y0 : Int32} (q1 : vp_in (x3 + (1 : Int32)) X.1) (k1 : CallOk X d 0 0 k_M_safe [.ref 95, .int (X.2 (x3 + (1 : Int32)).toNatClampNeg)] (mk vi vl) (fun r N' => wp X (d + 1) k_L_law 0 0 909 [some (.ref 1000000), some (.ref 0), some (.ref 95), some (.int x3)] (pR r [.int y0]) N' post)) : wp X (d + 1) k_L_law 0 0 900 [some (.ref 1000000), some (.ref 0), some (.ref 95), some (.int x3)] [.int y0] (mk vi vl) post :=
  wr_aload_n (q := 2) (by decide +kernel) rfl rfl <|
  wr_aload_n (q := 0) (by decide +kernel) rfl rfl <|
  wr_iload_n (q := 3) (by decide +kernel) rfl rfl <|
  wr_iconst (n := 1) (v := (1 : Int32)) (by decide +kernel) (by decide) <|
  wr_iadd (by decide +kernel) <|
  wr_sld q1 (by decide +kernel) <|
  wr_invV (a := 95) (ci := 4) (mid2 := 173) (idx := 113) (b1 := 0) (b2 := 0) (c1 := 0) (c2 := 0) (as := [.int (X.2 (x3 + (1 : Int32)).toNatClampNeg)]) (st := [.int y0]) pl_173 rfl (Nat.le_of_ble_eq_true rfl) rfl rfl lq_95 sq_95 (by decide) rfl lm_L_113 im_173 is_173 (by decide +kernel) k1
theorem b_L_law_909 {X : aX} {d : Nat} {post : aO} {vi : Nat → Nat → Int32} {vl : Nat → Nat → Int64} {x3 y0 y1 : Int32} (k1 : y0 = y1 → wp X (d + 1) k_L_law 0 0 1338 [some (.ref 1000000), some (.ref 0), some (.ref 95), some (.int x3)] [] (mk vi vl) post) (k2 : ¬ y0 = y1 → wp X (d + 1) k_L_law 0 0 912 [some (.ref 1000000), some (.ref 0), some (.ref 95), some (.int x3)] [] (mk vi vl) post) : wp X (d + 1) k_L_law 0 0 909 [some (.ref 1000000), some (.ref 0), some (.ref 95), some (.int x3)] [.int y1, .int y0] (mk vi vl) post :=
  wr_icmp_eq (off := 429) (t := 1338) (by decide +kernel) (by decide) k1 k2
theorem b_L_law_912 {X : aX} {d : Nat} {post : aO} {vi : Nat → Nat → Int32} {vl : Nat → Nat → Int64} {x3 : Int32} (k1 : post (some (.int (0 : Int32))) (mk vi vl)) : wp X (d + 1) k_L_law 0 0 912 [some (.ref 1000000), some (.ref 0), some (.ref 95), some (.int x3)] [] (mk vi vl) post :=
  wr_iconst (n := 0) (v := (0 : Int32)) (by decide +kernel) (by decide) <|
  wr_ret (r := some (.int (0 : Int32))) (Or.inr (Or.inl ⟨_, rfl, (by decide +kernel), (Or.inr ⟨rfl, (by decide)⟩)⟩)) k1
theorem b_L_law_914 {X : aX} {d : Nat} {post : aO} {vi : Nat → Nat → Int32} {vl : Nat → Nat → Int64} {x3 : Int32} (q1 : vp_in (x3 + (1 : Int32)) X.1) (q2 : vp_in (x3 + (2 : Int32)) X.1) (q3 : vp_in (x3 + (3 : Int32)) X.1) (k1 : CallOk X d 0 0 k_S_least [.ref 0, .int (X.2 (x3 + (1 : Int32)).toNatClampNeg), .int (X.2 (x3 + (2 : Int32)).toNatClampNeg), .int (X.2 (x3 + (3 : Int32)).toNatClampNeg)] (mk vi vl) (fun r N' => wp X (d + 1) k_L_law 0 0 933 [some (.ref 1000000), some (.ref 0), some (.ref 95), some (.int x3)] (pR r []) N' post)) : wp X (d + 1) k_L_law 0 0 914 [some (.ref 1000000), some (.ref 0), some (.ref 95), some (.int x3)] [] (mk vi vl) post :=
  wr_aload_n (q := 1) (by decide +kernel) rfl rfl <|
  wr_aload_n (q := 0) (by decide +kernel) rfl rfl <|
  wr_iload_n (q := 3) (by decide +kernel) rfl rfl <|
  wr_iconst (n := 1) (v := (1 : Int32)) (by decide +kernel) (by decide) <|
  wr_iadd (by decide +kernel) <|
  wr_sld q1 (by decide +kernel) <|
  wr_aload_n (q := 0) (by decide +kernel) rfl rfl <|
  wr_iload_n (q := 3) (by decide +kernel) rfl rfl <|
  wr_iconst (n := 2) (v := (2 : Int32)) (by decide +kernel) (by decide) <|
  wr_iadd (by decide +kernel) <|
  wr_sld q2 (by decide +kernel) <|
  wr_aload_n (q := 0) (by decide +kernel) rfl rfl <|
  wr_iload_n (q := 3) (by decide +kernel) rfl rfl <|
  wr_iconst (n := 3) (v := (3 : Int32)) (by decide +kernel) (by decide) <|
  wr_iadd (by decide +kernel) <|
  wr_sld q3 (by decide +kernel) <|
  wr_invV (a := 0) (ci := 3) (mid2 := 78) (idx := 114) (b1 := 0) (b2 := 0) (c1 := 0) (c2 := 0) (as := [.int (X.2 (x3 + (1 : Int32)).toNatClampNeg), .int (X.2 (x3 + (2 : Int32)).toNatClampNeg), .int (X.2 (x3 + (3 : Int32)).toNatClampNeg)]) (st := []) pl_78 rfl (Nat.le_of_ble_eq_true rfl) rfl rfl lq_0 sq_0 (by decide) rfl lm_L_114 im_78 is_78 (by decide +kernel) k1
theorem b_L_law_933 {X : aX} {d : Nat} {post : aO} {vi : Nat → Nat → Int32} {vl : Nat → Nat → Int64} {x3 y0 : Int32} (q1 : vp_in (x3 + (1 : Int32)) X.1) (q2 : vp_in (x3 + (2 : Int32)) X.1) (q3 : vp_in (x3 + (3 : Int32)) X.1) (k1 : CallOk X d 0 0 k_M_least [.ref 95, .int (X.2 (x3 + (1 : Int32)).toNatClampNeg), .int (X.2 (x3 + (2 : Int32)).toNatClampNeg), .int (X.2 (x3 + (3 : Int32)).toNatClampNeg)] (mk vi vl) (fun r N' => wp X (d + 1) k_L_law 0 0 952 [some (.ref 1000000), some (.ref 0), some (.ref 95), some (.int x3)] (pR r [.int y0]) N' post)) : wp X (d + 1) k_L_law 0 0 933 [some (.ref 1000000), some (.ref 0), some (.ref 95), some (.int x3)] [.int y0] (mk vi vl) post :=
  wr_aload_n (q := 2) (by decide +kernel) rfl rfl <|
  wr_aload_n (q := 0) (by decide +kernel) rfl rfl <|
  wr_iload_n (q := 3) (by decide +kernel) rfl rfl <|
  wr_iconst (n := 1) (v := (1 : Int32)) (by decide +kernel) (by decide) <|
  wr_iadd (by decide +kernel) <|
  wr_sld q1 (by decide +kernel) <|
  wr_aload_n (q := 0) (by decide +kernel) rfl rfl <|
  wr_iload_n (q := 3) (by decide +kernel) rfl rfl <|
  wr_iconst (n := 2) (v := (2 : Int32)) (by decide +kernel) (by decide) <|
  wr_iadd (by decide +kernel) <|
  wr_sld q2 (by decide +kernel) <|
  wr_aload_n (q := 0) (by decide +kernel) rfl rfl <|
  wr_iload_n (q := 3) (by decide +kernel) rfl rfl <|
  wr_iconst (n := 3) (v := (3 : Int32)) (by decide +kernel) (by decide) <|
  wr_iadd (by decide +kernel) <|
  wr_sld q3 (by decide +kernel) <|
  wr_invV (a := 95) (ci := 4) (mid2 := 174) (idx := 117) (b1 := 0) (b2 := 0) (c1 := 0) (c2 := 0) (as := [.int (X.2 (x3 + (1 : Int32)).toNatClampNeg), .int (X.2 (x3 + (2 : Int32)).toNatClampNeg), .int (X.2 (x3 + (3 : Int32)).toNatClampNeg)]) (st := [.int y0]) pl_174 rfl (Nat.le_of_ble_eq_true rfl) rfl rfl lq_95 sq_95 (by decide) rfl lm_L_117 im_174 is_174 (by decide +kernel) k1
theorem b_L_law_952 {X : aX} {d : Nat} {post : aO} {vi : Nat → Nat → Int32} {vl : Nat → Nat → Int64} {x3 y0 y1 : Int32} (k1 : y0 = y1 → wp X (d + 1) k_L_law 0 0 1338 [some (.ref 1000000), some (.ref 0), some (.ref 95), some (.int x3)] [] (mk vi vl) post) (k2 : ¬ y0 = y1 → wp X (d + 1) k_L_law 0 0 955 [some (.ref 1000000), some (.ref 0), some (.ref 95), some (.int x3)] [] (mk vi vl) post) : wp X (d + 1) k_L_law 0 0 952 [some (.ref 1000000), some (.ref 0), some (.ref 95), some (.int x3)] [.int y1, .int y0] (mk vi vl) post :=
  wr_icmp_eq (off := 386) (t := 1338) (by decide +kernel) (by decide) k1 k2
theorem b_L_law_955 {X : aX} {d : Nat} {post : aO} {vi : Nat → Nat → Int32} {vl : Nat → Nat → Int64} {x3 : Int32} (k1 : post (some (.int (0 : Int32))) (mk vi vl)) : wp X (d + 1) k_L_law 0 0 955 [some (.ref 1000000), some (.ref 0), some (.ref 95), some (.int x3)] [] (mk vi vl) post :=
  wr_iconst (n := 0) (v := (0 : Int32)) (by decide +kernel) (by decide) <|
  wr_ret (r := some (.int (0 : Int32))) (Or.inr (Or.inl ⟨_, rfl, (by decide +kernel), (Or.inr ⟨rfl, (by decide)⟩)⟩)) k1
theorem b_L_law_957 {X : aX} {d : Nat} {post : aO} {vi : Nat → Nat → Int32} {vl : Nat → Nat → Int64} {x3 : Int32} (q1 : vp_in (x3 + (1 : Int32)) X.1) (q2 : vp_in (x3 + (2 : Int32)) X.1) (q3 : vp_in (x3 + (3 : Int32)) X.1) (k1 : CallOk X d 0 0 k_S_ways [.ref 0, .int (X.2 (x3 + (1 : Int32)).toNatClampNeg), .int (X.2 (x3 + (2 : Int32)).toNatClampNeg), .int (X.2 (x3 + (3 : Int32)).toNatClampNeg)] (mk vi vl) (fun r N' => wp X (d + 1) k_L_law 0 0 976 [some (.ref 1000000), some (.ref 0), some (.ref 95), some (.int x3)] (pR r []) N' post)) : wp X (d + 1) k_L_law 0 0 957 [some (.ref 1000000), some (.ref 0), some (.ref 95), some (.int x3)] [] (mk vi vl) post :=
  wr_aload_n (q := 1) (by decide +kernel) rfl rfl <|
  wr_aload_n (q := 0) (by decide +kernel) rfl rfl <|
  wr_iload_n (q := 3) (by decide +kernel) rfl rfl <|
  wr_iconst (n := 1) (v := (1 : Int32)) (by decide +kernel) (by decide) <|
  wr_iadd (by decide +kernel) <|
  wr_sld q1 (by decide +kernel) <|
  wr_aload_n (q := 0) (by decide +kernel) rfl rfl <|
  wr_iload_n (q := 3) (by decide +kernel) rfl rfl <|
  wr_iconst (n := 2) (v := (2 : Int32)) (by decide +kernel) (by decide) <|
  wr_iadd (by decide +kernel) <|
  wr_sld q2 (by decide +kernel) <|
  wr_aload_n (q := 0) (by decide +kernel) rfl rfl <|
  wr_iload_n (q := 3) (by decide +kernel) rfl rfl <|
  wr_iconst (n := 3) (v := (3 : Int32)) (by decide +kernel) (by decide) <|
  wr_iadd (by decide +kernel) <|
  wr_sld q3 (by decide +kernel) <|
  wr_invV (a := 0) (ci := 3) (mid2 := 89) (idx := 118) (b1 := 0) (b2 := 0) (c1 := 0) (c2 := 0) (as := [.int (X.2 (x3 + (1 : Int32)).toNatClampNeg), .int (X.2 (x3 + (2 : Int32)).toNatClampNeg), .int (X.2 (x3 + (3 : Int32)).toNatClampNeg)]) (st := []) pl_89 rfl (Nat.le_of_ble_eq_true rfl) rfl rfl lq_0 sq_0 (by decide) rfl lm_L_118 im_89 is_89 (by decide +kernel) k1
theorem b_L_law_976 {X : aX} {d : Nat} {post : aO} {vi : Nat → Nat → Int32} {vl : Nat → Nat → Int64} {x3 y0 : Int32} (q1 : vp_in (x3 + (1 : Int32)) X.1) (q2 : vp_in (x3 + (2 : Int32)) X.1) (q3 : vp_in (x3 + (3 : Int32)) X.1) (k1 : CallOk X d 0 0 k_M_ways [.ref 95, .int (X.2 (x3 + (1 : Int32)).toNatClampNeg), .int (X.2 (x3 + (2 : Int32)).toNatClampNeg), .int (X.2 (x3 + (3 : Int32)).toNatClampNeg)] (mk vi vl) (fun r N' => wp X (d + 1) k_L_law 0 0 995 [some (.ref 1000000), some (.ref 0), some (.ref 95), some (.int x3)] (pR r [.int y0]) N' post)) : wp X (d + 1) k_L_law 0 0 976 [some (.ref 1000000), some (.ref 0), some (.ref 95), some (.int x3)] [.int y0] (mk vi vl) post :=
  wr_aload_n (q := 2) (by decide +kernel) rfl rfl <|
  wr_aload_n (q := 0) (by decide +kernel) rfl rfl <|
  wr_iload_n (q := 3) (by decide +kernel) rfl rfl <|
  wr_iconst (n := 1) (v := (1 : Int32)) (by decide +kernel) (by decide) <|
  wr_iadd (by decide +kernel) <|
  wr_sld q1 (by decide +kernel) <|
  wr_aload_n (q := 0) (by decide +kernel) rfl rfl <|
  wr_iload_n (q := 3) (by decide +kernel) rfl rfl <|
  wr_iconst (n := 2) (v := (2 : Int32)) (by decide +kernel) (by decide) <|
  wr_iadd (by decide +kernel) <|
  wr_sld q2 (by decide +kernel) <|
  wr_aload_n (q := 0) (by decide +kernel) rfl rfl <|
  wr_iload_n (q := 3) (by decide +kernel) rfl rfl <|
  wr_iconst (n := 3) (v := (3 : Int32)) (by decide +kernel) (by decide) <|
  wr_iadd (by decide +kernel) <|
  wr_sld q3 (by decide +kernel) <|
  wr_invV (a := 95) (ci := 4) (mid2 := 180) (idx := 121) (b1 := 0) (b2 := 0) (c1 := 0) (c2 := 0) (as := [.int (X.2 (x3 + (1 : Int32)).toNatClampNeg), .int (X.2 (x3 + (2 : Int32)).toNatClampNeg), .int (X.2 (x3 + (3 : Int32)).toNatClampNeg)]) (st := [.int y0]) pl_180 rfl (Nat.le_of_ble_eq_true rfl) rfl rfl lq_95 sq_95 (by decide) rfl lm_L_121 im_180 is_180 (by decide +kernel) k1
theorem b_L_law_995 {X : aX} {d : Nat} {post : aO} {vi : Nat → Nat → Int32} {vl : Nat → Nat → Int64} {x3 y0 y1 : Int32} (k1 : y0 = y1 → wp X (d + 1) k_L_law 0 0 1338 [some (.ref 1000000), some (.ref 0), some (.ref 95), some (.int x3)] [] (mk vi vl) post) (k2 : ¬ y0 = y1 → wp X (d + 1) k_L_law 0 0 998 [some (.ref 1000000), some (.ref 0), some (.ref 95), some (.int x3)] [] (mk vi vl) post) : wp X (d + 1) k_L_law 0 0 995 [some (.ref 1000000), some (.ref 0), some (.ref 95), some (.int x3)] [.int y1, .int y0] (mk vi vl) post :=
  wr_icmp_eq (off := 343) (t := 1338) (by decide +kernel) (by decide) k1 k2
theorem b_L_law_998 {X : aX} {d : Nat} {post : aO} {vi : Nat → Nat → Int32} {vl : Nat → Nat → Int64} {x3 : Int32} (k1 : post (some (.int (0 : Int32))) (mk vi vl)) : wp X (d + 1) k_L_law 0 0 998 [some (.ref 1000000), some (.ref 0), some (.ref 95), some (.int x3)] [] (mk vi vl) post :=
  wr_iconst (n := 0) (v := (0 : Int32)) (by decide +kernel) (by decide) <|
  wr_ret (r := some (.int (0 : Int32))) (Or.inr (Or.inl ⟨_, rfl, (by decide +kernel), (Or.inr ⟨rfl, (by decide)⟩)⟩)) k1
theorem b_L_law_1000 {X : aX} {d : Nat} {post : aO} {vi : Nat → Nat → Int32} {vl : Nat → Nat → Int64} {x3 : Int32} (q1 : vp_in (x3 + (1 : Int32)) X.1) (q2 : vp_in (x3 + (2 : Int32)) X.1) (k1 : CallOk X d 0 0 k_S_avert [.ref 0, .int (X.2 (x3 + (1 : Int32)).toNatClampNeg), .int (X.2 (x3 + (2 : Int32)).toNatClampNeg)] (mk vi vl) (fun r N' => wp X (d + 1) k_L_law 0 0 1014 [some (.ref 1000000), some (.ref 0), some (.ref 95), some (.int x3)] (pR r []) N' post)) : wp X (d + 1) k_L_law 0 0 1000 [some (.ref 1000000), some (.ref 0), some (.ref 95), some (.int x3)] [] (mk vi vl) post :=
  wr_aload_n (q := 1) (by decide +kernel) rfl rfl <|
  wr_aload_n (q := 0) (by decide +kernel) rfl rfl <|
  wr_iload_n (q := 3) (by decide +kernel) rfl rfl <|
  wr_iconst (n := 1) (v := (1 : Int32)) (by decide +kernel) (by decide) <|
  wr_iadd (by decide +kernel) <|
  wr_sld q1 (by decide +kernel) <|
  wr_aload_n (q := 0) (by decide +kernel) rfl rfl <|
  wr_iload_n (q := 3) (by decide +kernel) rfl rfl <|
  wr_iconst (n := 2) (v := (2 : Int32)) (by decide +kernel) (by decide) <|
  wr_iadd (by decide +kernel) <|
  wr_sld q2 (by decide +kernel) <|
  wr_invV (a := 0) (ci := 3) (mid2 := 92) (idx := 122) (b1 := 0) (b2 := 0) (c1 := 0) (c2 := 0) (as := [.int (X.2 (x3 + (1 : Int32)).toNatClampNeg), .int (X.2 (x3 + (2 : Int32)).toNatClampNeg)]) (st := []) pl_92 rfl (Nat.le_of_ble_eq_true rfl) rfl rfl lq_0 sq_0 (by decide) rfl lm_L_122 im_92 is_92 (by decide +kernel) k1
theorem b_L_law_1014 {X : aX} {d : Nat} {post : aO} {vi : Nat → Nat → Int32} {vl : Nat → Nat → Int64} {x3 y0 : Int32} (q1 : vp_in (x3 + (1 : Int32)) X.1) (q2 : vp_in (x3 + (2 : Int32)) X.1) (k1 : CallOk X d 0 0 k_M_avert [.ref 95, .int (X.2 (x3 + (1 : Int32)).toNatClampNeg), .int (X.2 (x3 + (2 : Int32)).toNatClampNeg)] (mk vi vl) (fun r N' => wp X (d + 1) k_L_law 0 0 1028 [some (.ref 1000000), some (.ref 0), some (.ref 95), some (.int x3)] (pR r [.int y0]) N' post)) : wp X (d + 1) k_L_law 0 0 1014 [some (.ref 1000000), some (.ref 0), some (.ref 95), some (.int x3)] [.int y0] (mk vi vl) post :=
  wr_aload_n (q := 2) (by decide +kernel) rfl rfl <|
  wr_aload_n (q := 0) (by decide +kernel) rfl rfl <|
  wr_iload_n (q := 3) (by decide +kernel) rfl rfl <|
  wr_iconst (n := 1) (v := (1 : Int32)) (by decide +kernel) (by decide) <|
  wr_iadd (by decide +kernel) <|
  wr_sld q1 (by decide +kernel) <|
  wr_aload_n (q := 0) (by decide +kernel) rfl rfl <|
  wr_iload_n (q := 3) (by decide +kernel) rfl rfl <|
  wr_iconst (n := 2) (v := (2 : Int32)) (by decide +kernel) (by decide) <|
  wr_iadd (by decide +kernel) <|
  wr_sld q2 (by decide +kernel) <|
  wr_invV (a := 95) (ci := 4) (mid2 := 181) (idx := 125) (b1 := 0) (b2 := 0) (c1 := 0) (c2 := 0) (as := [.int (X.2 (x3 + (1 : Int32)).toNatClampNeg), .int (X.2 (x3 + (2 : Int32)).toNatClampNeg)]) (st := [.int y0]) pl_181 rfl (Nat.le_of_ble_eq_true rfl) rfl rfl lq_95 sq_95 (by decide) rfl lm_L_125 im_181 is_181 (by decide +kernel) k1
theorem b_L_law_1028 {X : aX} {d : Nat} {post : aO} {vi : Nat → Nat → Int32} {vl : Nat → Nat → Int64} {x3 y0 y1 : Int32} (k1 : y0 = y1 → wp X (d + 1) k_L_law 0 0 1338 [some (.ref 1000000), some (.ref 0), some (.ref 95), some (.int x3)] [] (mk vi vl) post) (k2 : ¬ y0 = y1 → wp X (d + 1) k_L_law 0 0 1031 [some (.ref 1000000), some (.ref 0), some (.ref 95), some (.int x3)] [] (mk vi vl) post) : wp X (d + 1) k_L_law 0 0 1028 [some (.ref 1000000), some (.ref 0), some (.ref 95), some (.int x3)] [.int y1, .int y0] (mk vi vl) post :=
  wr_icmp_eq (off := 310) (t := 1338) (by decide +kernel) (by decide) k1 k2
theorem b_L_law_1031 {X : aX} {d : Nat} {post : aO} {vi : Nat → Nat → Int32} {vl : Nat → Nat → Int64} {x3 : Int32} (k1 : post (some (.int (0 : Int32))) (mk vi vl)) : wp X (d + 1) k_L_law 0 0 1031 [some (.ref 1000000), some (.ref 0), some (.ref 95), some (.int x3)] [] (mk vi vl) post :=
  wr_iconst (n := 0) (v := (0 : Int32)) (by decide +kernel) (by decide) <|
  wr_ret (r := some (.int (0 : Int32))) (Or.inr (Or.inl ⟨_, rfl, (by decide +kernel), (Or.inr ⟨rfl, (by decide)⟩)⟩)) k1
theorem b_L_law_1033 {X : aX} {d : Nat} {post : aO} {vi : Nat → Nat → Int32} {vl : Nat → Nat → Int64} {x3 : Int32} (q1 : vp_in (x3 + (1 : Int32)) X.1) (k1 : CallOk X d 0 0 k_S_judge [.ref 0, .int (X.2 (x3 + (1 : Int32)).toNatClampNeg)] (mk vi vl) (fun r N' => wp X (d + 1) k_L_law 0 0 1042 [some (.ref 1000000), some (.ref 0), some (.ref 95), some (.int x3)] (pR r []) N' post)) : wp X (d + 1) k_L_law 0 0 1033 [some (.ref 1000000), some (.ref 0), some (.ref 95), some (.int x3)] [] (mk vi vl) post :=
  wr_aload_n (q := 1) (by decide +kernel) rfl rfl <|
  wr_aload_n (q := 0) (by decide +kernel) rfl rfl <|
  wr_iload_n (q := 3) (by decide +kernel) rfl rfl <|
  wr_iconst (n := 1) (v := (1 : Int32)) (by decide +kernel) (by decide) <|
  wr_iadd (by decide +kernel) <|
  wr_sld q1 (by decide +kernel) <|
  wr_invV (a := 0) (ci := 3) (mid2 := 93) (idx := 126) (b1 := 0) (b2 := 0) (c1 := 0) (c2 := 0) (as := [.int (X.2 (x3 + (1 : Int32)).toNatClampNeg)]) (st := []) pl_93 rfl (Nat.le_of_ble_eq_true rfl) rfl rfl lq_0 sq_0 (by decide) rfl lm_L_126 im_93 is_93 (by decide +kernel) k1
theorem b_L_law_1042 {X : aX} {d : Nat} {post : aO} {vi : Nat → Nat → Int32} {vl : Nat → Nat → Int64} {x3 y0 : Int32} (q1 : vp_in (x3 + (1 : Int32)) X.1) (k1 : CallOk X d 0 0 k_M_judge [.ref 95, .int (X.2 (x3 + (1 : Int32)).toNatClampNeg)] (mk vi vl) (fun r N' => wp X (d + 1) k_L_law 0 0 1051 [some (.ref 1000000), some (.ref 0), some (.ref 95), some (.int x3)] (pR r [.int y0]) N' post)) : wp X (d + 1) k_L_law 0 0 1042 [some (.ref 1000000), some (.ref 0), some (.ref 95), some (.int x3)] [.int y0] (mk vi vl) post :=
  wr_aload_n (q := 2) (by decide +kernel) rfl rfl <|
  wr_aload_n (q := 0) (by decide +kernel) rfl rfl <|
  wr_iload_n (q := 3) (by decide +kernel) rfl rfl <|
  wr_iconst (n := 1) (v := (1 : Int32)) (by decide +kernel) (by decide) <|
  wr_iadd (by decide +kernel) <|
  wr_sld q1 (by decide +kernel) <|
  wr_invV (a := 95) (ci := 4) (mid2 := 182) (idx := 129) (b1 := 0) (b2 := 0) (c1 := 0) (c2 := 0) (as := [.int (X.2 (x3 + (1 : Int32)).toNatClampNeg)]) (st := [.int y0]) pl_182 rfl (Nat.le_of_ble_eq_true rfl) rfl rfl lq_95 sq_95 (by decide) rfl lm_L_129 im_182 is_182 (by decide +kernel) k1
theorem b_L_law_1051 {X : aX} {d : Nat} {post : aO} {vi : Nat → Nat → Int32} {vl : Nat → Nat → Int64} {x3 y0 y1 : Int32} (k1 : y0 = y1 → wp X (d + 1) k_L_law 0 0 1338 [some (.ref 1000000), some (.ref 0), some (.ref 95), some (.int x3)] [] (mk vi vl) post) (k2 : ¬ y0 = y1 → wp X (d + 1) k_L_law 0 0 1054 [some (.ref 1000000), some (.ref 0), some (.ref 95), some (.int x3)] [] (mk vi vl) post) : wp X (d + 1) k_L_law 0 0 1051 [some (.ref 1000000), some (.ref 0), some (.ref 95), some (.int x3)] [.int y1, .int y0] (mk vi vl) post :=
  wr_icmp_eq (off := 287) (t := 1338) (by decide +kernel) (by decide) k1 k2
theorem b_L_law_1054 {X : aX} {d : Nat} {post : aO} {vi : Nat → Nat → Int32} {vl : Nat → Nat → Int64} {x3 : Int32} (k1 : post (some (.int (0 : Int32))) (mk vi vl)) : wp X (d + 1) k_L_law 0 0 1054 [some (.ref 1000000), some (.ref 0), some (.ref 95), some (.int x3)] [] (mk vi vl) post :=
  wr_iconst (n := 0) (v := (0 : Int32)) (by decide +kernel) (by decide) <|
  wr_ret (r := some (.int (0 : Int32))) (Or.inr (Or.inl ⟨_, rfl, (by decide +kernel), (Or.inr ⟨rfl, (by decide)⟩)⟩)) k1
theorem b_L_law_1056 {X : aX} {d : Nat} {post : aO} {vi : Nat → Nat → Int32} {vl : Nat → Nat → Int64} {x3 : Int32} (q1 : vp_in (x3 + (1 : Int32)) X.1) (q2 : vp_in (x3 + (2 : Int32)) X.1) (k1 : CallOk X d 0 0 k_S_was [.ref 0, .int (X.2 (x3 + (1 : Int32)).toNatClampNeg), .int (X.2 (x3 + (2 : Int32)).toNatClampNeg)] (mk vi vl) (fun r N' => wp X (d + 1) k_L_law 0 0 1070 [some (.ref 1000000), some (.ref 0), some (.ref 95), some (.int x3)] (pR r []) N' post)) : wp X (d + 1) k_L_law 0 0 1056 [some (.ref 1000000), some (.ref 0), some (.ref 95), some (.int x3)] [] (mk vi vl) post :=
  wr_aload_n (q := 1) (by decide +kernel) rfl rfl <|
  wr_aload_n (q := 0) (by decide +kernel) rfl rfl <|
  wr_iload_n (q := 3) (by decide +kernel) rfl rfl <|
  wr_iconst (n := 1) (v := (1 : Int32)) (by decide +kernel) (by decide) <|
  wr_iadd (by decide +kernel) <|
  wr_sld q1 (by decide +kernel) <|
  wr_aload_n (q := 0) (by decide +kernel) rfl rfl <|
  wr_iload_n (q := 3) (by decide +kernel) rfl rfl <|
  wr_iconst (n := 2) (v := (2 : Int32)) (by decide +kernel) (by decide) <|
  wr_iadd (by decide +kernel) <|
  wr_sld q2 (by decide +kernel) <|
  wr_invV (a := 0) (ci := 3) (mid2 := 95) (idx := 130) (b1 := 0) (b2 := 0) (c1 := 0) (c2 := 0) (as := [.int (X.2 (x3 + (1 : Int32)).toNatClampNeg), .int (X.2 (x3 + (2 : Int32)).toNatClampNeg)]) (st := []) pl_95 rfl (Nat.le_of_ble_eq_true rfl) rfl rfl lq_0 sq_0 (by decide) rfl lm_L_130 im_95 is_95 (by decide +kernel) k1
theorem b_L_law_1070 {X : aX} {d : Nat} {post : aO} {vi : Nat → Nat → Int32} {vl : Nat → Nat → Int64} {x3 y0 : Int32} (q1 : vp_in (x3 + (1 : Int32)) X.1) (q2 : vp_in (x3 + (2 : Int32)) X.1) (k1 : CallOk X d 0 0 k_M_was [.ref 95, .int (X.2 (x3 + (1 : Int32)).toNatClampNeg), .int (X.2 (x3 + (2 : Int32)).toNatClampNeg)] (mk vi vl) (fun r N' => wp X (d + 1) k_L_law 0 0 1084 [some (.ref 1000000), some (.ref 0), some (.ref 95), some (.int x3)] (pR r [.int y0]) N' post)) : wp X (d + 1) k_L_law 0 0 1070 [some (.ref 1000000), some (.ref 0), some (.ref 95), some (.int x3)] [.int y0] (mk vi vl) post :=
  wr_aload_n (q := 2) (by decide +kernel) rfl rfl <|
  wr_aload_n (q := 0) (by decide +kernel) rfl rfl <|
  wr_iload_n (q := 3) (by decide +kernel) rfl rfl <|
  wr_iconst (n := 1) (v := (1 : Int32)) (by decide +kernel) (by decide) <|
  wr_iadd (by decide +kernel) <|
  wr_sld q1 (by decide +kernel) <|
  wr_aload_n (q := 0) (by decide +kernel) rfl rfl <|
  wr_iload_n (q := 3) (by decide +kernel) rfl rfl <|
  wr_iconst (n := 2) (v := (2 : Int32)) (by decide +kernel) (by decide) <|
  wr_iadd (by decide +kernel) <|
  wr_sld q2 (by decide +kernel) <|
  wr_invV (a := 95) (ci := 4) (mid2 := 184) (idx := 133) (b1 := 0) (b2 := 0) (c1 := 0) (c2 := 0) (as := [.int (X.2 (x3 + (1 : Int32)).toNatClampNeg), .int (X.2 (x3 + (2 : Int32)).toNatClampNeg)]) (st := [.int y0]) pl_184 rfl (Nat.le_of_ble_eq_true rfl) rfl rfl lq_95 sq_95 (by decide) rfl lm_L_133 im_184 is_184 (by decide +kernel) k1
theorem b_L_law_1084 {X : aX} {d : Nat} {post : aO} {vi : Nat → Nat → Int32} {vl : Nat → Nat → Int64} {x3 y0 y1 : Int32} (k1 : y0 = y1 → wp X (d + 1) k_L_law 0 0 1338 [some (.ref 1000000), some (.ref 0), some (.ref 95), some (.int x3)] [] (mk vi vl) post) (k2 : ¬ y0 = y1 → wp X (d + 1) k_L_law 0 0 1087 [some (.ref 1000000), some (.ref 0), some (.ref 95), some (.int x3)] [] (mk vi vl) post) : wp X (d + 1) k_L_law 0 0 1084 [some (.ref 1000000), some (.ref 0), some (.ref 95), some (.int x3)] [.int y1, .int y0] (mk vi vl) post :=
  wr_icmp_eq (off := 254) (t := 1338) (by decide +kernel) (by decide) k1 k2
theorem b_L_law_1087 {X : aX} {d : Nat} {post : aO} {vi : Nat → Nat → Int32} {vl : Nat → Nat → Int64} {x3 : Int32} (k1 : post (some (.int (0 : Int32))) (mk vi vl)) : wp X (d + 1) k_L_law 0 0 1087 [some (.ref 1000000), some (.ref 0), some (.ref 95), some (.int x3)] [] (mk vi vl) post :=
  wr_iconst (n := 0) (v := (0 : Int32)) (by decide +kernel) (by decide) <|
  wr_ret (r := some (.int (0 : Int32))) (Or.inr (Or.inl ⟨_, rfl, (by decide +kernel), (Or.inr ⟨rfl, (by decide)⟩)⟩)) k1
theorem b_L_law_1089 {X : aX} {d : Nat} {post : aO} {vi : Nat → Nat → Int32} {vl : Nat → Nat → Int64} {x3 : Int32} (q1 : vp_in (x3 + (1 : Int32)) X.1) (q2 : vp_in (x3 + (2 : Int32)) X.1) (k1 : CallOk X d 0 0 k_S_kinds [.ref 0, .int (X.2 (x3 + (1 : Int32)).toNatClampNeg), .int (X.2 (x3 + (2 : Int32)).toNatClampNeg)] (mk vi vl) (fun r N' => wp X (d + 1) k_L_law 0 0 1103 [some (.ref 1000000), some (.ref 0), some (.ref 95), some (.int x3)] (pR r []) N' post)) : wp X (d + 1) k_L_law 0 0 1089 [some (.ref 1000000), some (.ref 0), some (.ref 95), some (.int x3)] [] (mk vi vl) post :=
  wr_aload_n (q := 1) (by decide +kernel) rfl rfl <|
  wr_aload_n (q := 0) (by decide +kernel) rfl rfl <|
  wr_iload_n (q := 3) (by decide +kernel) rfl rfl <|
  wr_iconst (n := 1) (v := (1 : Int32)) (by decide +kernel) (by decide) <|
  wr_iadd (by decide +kernel) <|
  wr_sld q1 (by decide +kernel) <|
  wr_aload_n (q := 0) (by decide +kernel) rfl rfl <|
  wr_iload_n (q := 3) (by decide +kernel) rfl rfl <|
  wr_iconst (n := 2) (v := (2 : Int32)) (by decide +kernel) (by decide) <|
  wr_iadd (by decide +kernel) <|
  wr_sld q2 (by decide +kernel) <|
  wr_invV (a := 0) (ci := 3) (mid2 := 98) (idx := 134) (b1 := 0) (b2 := 0) (c1 := 0) (c2 := 0) (as := [.int (X.2 (x3 + (1 : Int32)).toNatClampNeg), .int (X.2 (x3 + (2 : Int32)).toNatClampNeg)]) (st := []) pl_98 rfl (Nat.le_of_ble_eq_true rfl) rfl rfl lq_0 sq_0 (by decide) rfl lm_L_134 im_98 is_98 (by decide +kernel) k1
theorem b_L_law_1103 {X : aX} {d : Nat} {post : aO} {vi : Nat → Nat → Int32} {vl : Nat → Nat → Int64} {x3 y0 : Int32} (q1 : vp_in (x3 + (1 : Int32)) X.1) (q2 : vp_in (x3 + (2 : Int32)) X.1) (k1 : CallOk X d 0 0 k_M_kinds [.ref 95, .int (X.2 (x3 + (1 : Int32)).toNatClampNeg), .int (X.2 (x3 + (2 : Int32)).toNatClampNeg)] (mk vi vl) (fun r N' => wp X (d + 1) k_L_law 0 0 1117 [some (.ref 1000000), some (.ref 0), some (.ref 95), some (.int x3)] (pR r [.int y0]) N' post)) : wp X (d + 1) k_L_law 0 0 1103 [some (.ref 1000000), some (.ref 0), some (.ref 95), some (.int x3)] [.int y0] (mk vi vl) post :=
  wr_aload_n (q := 2) (by decide +kernel) rfl rfl <|
  wr_aload_n (q := 0) (by decide +kernel) rfl rfl <|
  wr_iload_n (q := 3) (by decide +kernel) rfl rfl <|
  wr_iconst (n := 1) (v := (1 : Int32)) (by decide +kernel) (by decide) <|
  wr_iadd (by decide +kernel) <|
  wr_sld q1 (by decide +kernel) <|
  wr_aload_n (q := 0) (by decide +kernel) rfl rfl <|
  wr_iload_n (q := 3) (by decide +kernel) rfl rfl <|
  wr_iconst (n := 2) (v := (2 : Int32)) (by decide +kernel) (by decide) <|
  wr_iadd (by decide +kernel) <|
  wr_sld q2 (by decide +kernel) <|
  wr_invV (a := 95) (ci := 4) (mid2 := 187) (idx := 137) (b1 := 0) (b2 := 0) (c1 := 0) (c2 := 0) (as := [.int (X.2 (x3 + (1 : Int32)).toNatClampNeg), .int (X.2 (x3 + (2 : Int32)).toNatClampNeg)]) (st := [.int y0]) pl_187 rfl (Nat.le_of_ble_eq_true rfl) rfl rfl lq_95 sq_95 (by decide) rfl lm_L_137 im_187 is_187 (by decide +kernel) k1
theorem b_L_law_1117 {X : aX} {d : Nat} {post : aO} {vi : Nat → Nat → Int32} {vl : Nat → Nat → Int64} {x3 y0 y1 : Int32} (k1 : y0 = y1 → wp X (d + 1) k_L_law 0 0 1338 [some (.ref 1000000), some (.ref 0), some (.ref 95), some (.int x3)] [] (mk vi vl) post) (k2 : ¬ y0 = y1 → wp X (d + 1) k_L_law 0 0 1120 [some (.ref 1000000), some (.ref 0), some (.ref 95), some (.int x3)] [] (mk vi vl) post) : wp X (d + 1) k_L_law 0 0 1117 [some (.ref 1000000), some (.ref 0), some (.ref 95), some (.int x3)] [.int y1, .int y0] (mk vi vl) post :=
  wr_icmp_eq (off := 221) (t := 1338) (by decide +kernel) (by decide) k1 k2
theorem b_L_law_1120 {X : aX} {d : Nat} {post : aO} {vi : Nat → Nat → Int32} {vl : Nat → Nat → Int64} {x3 : Int32} (k1 : post (some (.int (0 : Int32))) (mk vi vl)) : wp X (d + 1) k_L_law 0 0 1120 [some (.ref 1000000), some (.ref 0), some (.ref 95), some (.int x3)] [] (mk vi vl) post :=
  wr_iconst (n := 0) (v := (0 : Int32)) (by decide +kernel) (by decide) <|
  wr_ret (r := some (.int (0 : Int32))) (Or.inr (Or.inl ⟨_, rfl, (by decide +kernel), (Or.inr ⟨rfl, (by decide)⟩)⟩)) k1
theorem b_L_law_1122 {X : aX} {d : Nat} {post : aO} {vi : Nat → Nat → Int32} {vl : Nat → Nat → Int64} {x3 : Int32} (k1 : CallOk X d 0 0 k_S_needed [.ref 0] (mk vi vl) (fun r N' => wp X (d + 1) k_L_law 0 0 1126 [some (.ref 1000000), some (.ref 0), some (.ref 95), some (.int x3)] (pR r []) N' post)) : wp X (d + 1) k_L_law 0 0 1122 [some (.ref 1000000), some (.ref 0), some (.ref 95), some (.int x3)] [] (mk vi vl) post :=
  wr_aload_n (q := 1) (by decide +kernel) rfl rfl <|
  wr_invV (a := 0) (ci := 3) (mid2 := 99) (idx := 138) (b1 := 0) (b2 := 0) (c1 := 0) (c2 := 0) (as := []) (st := []) pl_99 rfl (Nat.le_of_ble_eq_true rfl) rfl rfl lq_0 sq_0 (by decide) rfl lm_L_138 im_99 is_99 (by decide +kernel) k1
theorem b_L_law_1126 {X : aX} {d : Nat} {post : aO} {vi : Nat → Nat → Int32} {vl : Nat → Nat → Int64} {x3 y0 : Int32} (k1 : CallOk X d 0 0 k_M_needed [.ref 95] (mk vi vl) (fun r N' => wp X (d + 1) k_L_law 0 0 1130 [some (.ref 1000000), some (.ref 0), some (.ref 95), some (.int x3)] (pR r [.int y0]) N' post)) : wp X (d + 1) k_L_law 0 0 1126 [some (.ref 1000000), some (.ref 0), some (.ref 95), some (.int x3)] [.int y0] (mk vi vl) post :=
  wr_aload_n (q := 2) (by decide +kernel) rfl rfl <|
  wr_invV (a := 95) (ci := 4) (mid2 := 188) (idx := 141) (b1 := 0) (b2 := 0) (c1 := 0) (c2 := 0) (as := []) (st := [.int y0]) pl_188 rfl (Nat.le_of_ble_eq_true rfl) rfl rfl lq_95 sq_95 (by decide) rfl lm_L_141 im_188 is_188 (by decide +kernel) k1
theorem b_L_law_1130 {X : aX} {d : Nat} {post : aO} {vi : Nat → Nat → Int32} {vl : Nat → Nat → Int64} {x3 y0 y1 : Int32} (k1 : y0 = y1 → wp X (d + 1) k_L_law 0 0 1338 [some (.ref 1000000), some (.ref 0), some (.ref 95), some (.int x3)] [] (mk vi vl) post) (k2 : ¬ y0 = y1 → wp X (d + 1) k_L_law 0 0 1133 [some (.ref 1000000), some (.ref 0), some (.ref 95), some (.int x3)] [] (mk vi vl) post) : wp X (d + 1) k_L_law 0 0 1130 [some (.ref 1000000), some (.ref 0), some (.ref 95), some (.int x3)] [.int y1, .int y0] (mk vi vl) post :=
  wr_icmp_eq (off := 208) (t := 1338) (by decide +kernel) (by decide) k1 k2
theorem b_L_law_1133 {X : aX} {d : Nat} {post : aO} {vi : Nat → Nat → Int32} {vl : Nat → Nat → Int64} {x3 : Int32} (k1 : post (some (.int (0 : Int32))) (mk vi vl)) : wp X (d + 1) k_L_law 0 0 1133 [some (.ref 1000000), some (.ref 0), some (.ref 95), some (.int x3)] [] (mk vi vl) post :=
  wr_iconst (n := 0) (v := (0 : Int32)) (by decide +kernel) (by decide) <|
  wr_ret (r := some (.int (0 : Int32))) (Or.inr (Or.inl ⟨_, rfl, (by decide +kernel), (Or.inr ⟨rfl, (by decide)⟩)⟩)) k1
theorem b_L_law_1135 {X : aX} {d : Nat} {post : aO} {vi : Nat → Nat → Int32} {vl : Nat → Nat → Int64} {x3 : Int32} (q1 : vp_in (x3 + (1 : Int32)) X.1) (k1 : CallOk X d 0 0 k_S_forged [.ref 0, .int (X.2 (x3 + (1 : Int32)).toNatClampNeg)] (mk vi vl) (fun r N' => wp X (d + 1) k_L_law 0 0 1144 [some (.ref 1000000), some (.ref 0), some (.ref 95), some (.int x3)] (pR r []) N' post)) : wp X (d + 1) k_L_law 0 0 1135 [some (.ref 1000000), some (.ref 0), some (.ref 95), some (.int x3)] [] (mk vi vl) post :=
  wr_aload_n (q := 1) (by decide +kernel) rfl rfl <|
  wr_aload_n (q := 0) (by decide +kernel) rfl rfl <|
  wr_iload_n (q := 3) (by decide +kernel) rfl rfl <|
  wr_iconst (n := 1) (v := (1 : Int32)) (by decide +kernel) (by decide) <|
  wr_iadd (by decide +kernel) <|
  wr_sld q1 (by decide +kernel) <|
  wr_invV (a := 0) (ci := 3) (mid2 := 100) (idx := 142) (b1 := 0) (b2 := 0) (c1 := 0) (c2 := 0) (as := [.int (X.2 (x3 + (1 : Int32)).toNatClampNeg)]) (st := []) pl_100 rfl (Nat.le_of_ble_eq_true rfl) rfl rfl lq_0 sq_0 (by decide) rfl lm_L_142 im_100 is_100 (by decide +kernel) k1
theorem b_L_law_1144 {X : aX} {d : Nat} {post : aO} {vi : Nat → Nat → Int32} {vl : Nat → Nat → Int64} {x3 y0 : Int32} (q1 : vp_in (x3 + (1 : Int32)) X.1) (k1 : CallOk X d 0 0 k_M_forged [.ref 95, .int (X.2 (x3 + (1 : Int32)).toNatClampNeg)] (mk vi vl) (fun r N' => wp X (d + 1) k_L_law 0 0 1153 [some (.ref 1000000), some (.ref 0), some (.ref 95), some (.int x3)] (pR r [.int y0]) N' post)) : wp X (d + 1) k_L_law 0 0 1144 [some (.ref 1000000), some (.ref 0), some (.ref 95), some (.int x3)] [.int y0] (mk vi vl) post :=
  wr_aload_n (q := 2) (by decide +kernel) rfl rfl <|
  wr_aload_n (q := 0) (by decide +kernel) rfl rfl <|
  wr_iload_n (q := 3) (by decide +kernel) rfl rfl <|
  wr_iconst (n := 1) (v := (1 : Int32)) (by decide +kernel) (by decide) <|
  wr_iadd (by decide +kernel) <|
  wr_sld q1 (by decide +kernel) <|
  wr_invV (a := 95) (ci := 4) (mid2 := 189) (idx := 145) (b1 := 0) (b2 := 0) (c1 := 0) (c2 := 0) (as := [.int (X.2 (x3 + (1 : Int32)).toNatClampNeg)]) (st := [.int y0]) pl_189 rfl (Nat.le_of_ble_eq_true rfl) rfl rfl lq_95 sq_95 (by decide) rfl lm_L_145 im_189 is_189 (by decide +kernel) k1
theorem b_L_law_1153 {X : aX} {d : Nat} {post : aO} {vi : Nat → Nat → Int32} {vl : Nat → Nat → Int64} {x3 y0 y1 : Int32} (k1 : y0 = y1 → wp X (d + 1) k_L_law 0 0 1338 [some (.ref 1000000), some (.ref 0), some (.ref 95), some (.int x3)] [] (mk vi vl) post) (k2 : ¬ y0 = y1 → wp X (d + 1) k_L_law 0 0 1156 [some (.ref 1000000), some (.ref 0), some (.ref 95), some (.int x3)] [] (mk vi vl) post) : wp X (d + 1) k_L_law 0 0 1153 [some (.ref 1000000), some (.ref 0), some (.ref 95), some (.int x3)] [.int y1, .int y0] (mk vi vl) post :=
  wr_icmp_eq (off := 185) (t := 1338) (by decide +kernel) (by decide) k1 k2
theorem b_L_law_1156 {X : aX} {d : Nat} {post : aO} {vi : Nat → Nat → Int32} {vl : Nat → Nat → Int64} {x3 : Int32} (k1 : post (some (.int (0 : Int32))) (mk vi vl)) : wp X (d + 1) k_L_law 0 0 1156 [some (.ref 1000000), some (.ref 0), some (.ref 95), some (.int x3)] [] (mk vi vl) post :=
  wr_iconst (n := 0) (v := (0 : Int32)) (by decide +kernel) (by decide) <|
  wr_ret (r := some (.int (0 : Int32))) (Or.inr (Or.inl ⟨_, rfl, (by decide +kernel), (Or.inr ⟨rfl, (by decide)⟩)⟩)) k1
theorem b_L_law_1158 {X : aX} {d : Nat} {post : aO} {vi : Nat → Nat → Int32} {vl : Nat → Nat → Int64} {x3 : Int32} (q1 : vp_in (x3 + (1 : Int32)) X.1) (q2 : vp_in (x3 + (2 : Int32)) X.1) (k1 : CallOk X d 0 0 k_S_odds [.ref 0, .int (X.2 (x3 + (1 : Int32)).toNatClampNeg), .int (X.2 (x3 + (2 : Int32)).toNatClampNeg)] (mk vi vl) (fun r N' => wp X (d + 1) k_L_law 0 0 1172 [some (.ref 1000000), some (.ref 0), some (.ref 95), some (.int x3)] (pR r []) N' post)) : wp X (d + 1) k_L_law 0 0 1158 [some (.ref 1000000), some (.ref 0), some (.ref 95), some (.int x3)] [] (mk vi vl) post :=
  wr_aload_n (q := 1) (by decide +kernel) rfl rfl <|
  wr_aload_n (q := 0) (by decide +kernel) rfl rfl <|
  wr_iload_n (q := 3) (by decide +kernel) rfl rfl <|
  wr_iconst (n := 1) (v := (1 : Int32)) (by decide +kernel) (by decide) <|
  wr_iadd (by decide +kernel) <|
  wr_sld q1 (by decide +kernel) <|
  wr_aload_n (q := 0) (by decide +kernel) rfl rfl <|
  wr_iload_n (q := 3) (by decide +kernel) rfl rfl <|
  wr_iconst (n := 2) (v := (2 : Int32)) (by decide +kernel) (by decide) <|
  wr_iadd (by decide +kernel) <|
  wr_sld q2 (by decide +kernel) <|
  wr_invV (a := 0) (ci := 3) (mid2 := 102) (idx := 146) (b1 := 0) (b2 := 0) (c1 := 0) (c2 := 0) (as := [.int (X.2 (x3 + (1 : Int32)).toNatClampNeg), .int (X.2 (x3 + (2 : Int32)).toNatClampNeg)]) (st := []) pl_102 rfl (Nat.le_of_ble_eq_true rfl) rfl rfl lq_0 sq_0 (by decide) rfl lm_L_146 im_102 is_102 (by decide +kernel) k1
theorem b_L_law_1172 {X : aX} {d : Nat} {post : aO} {vi : Nat → Nat → Int32} {vl : Nat → Nat → Int64} {x3 y0 : Int32} (q1 : vp_in (x3 + (1 : Int32)) X.1) (q2 : vp_in (x3 + (2 : Int32)) X.1) (k1 : CallOk X d 0 0 k_M_odds [.ref 95, .int (X.2 (x3 + (1 : Int32)).toNatClampNeg), .int (X.2 (x3 + (2 : Int32)).toNatClampNeg)] (mk vi vl) (fun r N' => wp X (d + 1) k_L_law 0 0 1186 [some (.ref 1000000), some (.ref 0), some (.ref 95), some (.int x3)] (pR r [.int y0]) N' post)) : wp X (d + 1) k_L_law 0 0 1172 [some (.ref 1000000), some (.ref 0), some (.ref 95), some (.int x3)] [.int y0] (mk vi vl) post :=
  wr_aload_n (q := 2) (by decide +kernel) rfl rfl <|
  wr_aload_n (q := 0) (by decide +kernel) rfl rfl <|
  wr_iload_n (q := 3) (by decide +kernel) rfl rfl <|
  wr_iconst (n := 1) (v := (1 : Int32)) (by decide +kernel) (by decide) <|
  wr_iadd (by decide +kernel) <|
  wr_sld q1 (by decide +kernel) <|
  wr_aload_n (q := 0) (by decide +kernel) rfl rfl <|
  wr_iload_n (q := 3) (by decide +kernel) rfl rfl <|
  wr_iconst (n := 2) (v := (2 : Int32)) (by decide +kernel) (by decide) <|
  wr_iadd (by decide +kernel) <|
  wr_sld q2 (by decide +kernel) <|
  wr_invV (a := 95) (ci := 4) (mid2 := 190) (idx := 149) (b1 := 0) (b2 := 0) (c1 := 0) (c2 := 0) (as := [.int (X.2 (x3 + (1 : Int32)).toNatClampNeg), .int (X.2 (x3 + (2 : Int32)).toNatClampNeg)]) (st := [.int y0]) pl_190 rfl (Nat.le_of_ble_eq_true rfl) rfl rfl lq_95 sq_95 (by decide) rfl lm_L_149 im_190 is_190 (by decide +kernel) k1
theorem b_L_law_1186 {X : aX} {d : Nat} {post : aO} {vi : Nat → Nat → Int32} {vl : Nat → Nat → Int64} {x3 y0 y1 : Int32} (k1 : y0 = y1 → wp X (d + 1) k_L_law 0 0 1338 [some (.ref 1000000), some (.ref 0), some (.ref 95), some (.int x3)] [] (mk vi vl) post) (k2 : ¬ y0 = y1 → wp X (d + 1) k_L_law 0 0 1189 [some (.ref 1000000), some (.ref 0), some (.ref 95), some (.int x3)] [] (mk vi vl) post) : wp X (d + 1) k_L_law 0 0 1186 [some (.ref 1000000), some (.ref 0), some (.ref 95), some (.int x3)] [.int y1, .int y0] (mk vi vl) post :=
  wr_icmp_eq (off := 152) (t := 1338) (by decide +kernel) (by decide) k1 k2
theorem b_L_law_1189 {X : aX} {d : Nat} {post : aO} {vi : Nat → Nat → Int32} {vl : Nat → Nat → Int64} {x3 : Int32} (k1 : post (some (.int (0 : Int32))) (mk vi vl)) : wp X (d + 1) k_L_law 0 0 1189 [some (.ref 1000000), some (.ref 0), some (.ref 95), some (.int x3)] [] (mk vi vl) post :=
  wr_iconst (n := 0) (v := (0 : Int32)) (by decide +kernel) (by decide) <|
  wr_ret (r := some (.int (0 : Int32))) (Or.inr (Or.inl ⟨_, rfl, (by decide +kernel), (Or.inr ⟨rfl, (by decide)⟩)⟩)) k1
theorem b_L_law_1191 {X : aX} {d : Nat} {post : aO} {vi : Nat → Nat → Int32} {vl : Nat → Nat → Int64} {x3 : Int32} (q1 : vp_in (x3 + (1 : Int32)) X.1) (q2 : vp_in (x3 + (2 : Int32)) X.1) (k1 : CallOk X d 0 0 k_S_lots [.ref 0, .int (X.2 (x3 + (1 : Int32)).toNatClampNeg), .int (X.2 (x3 + (2 : Int32)).toNatClampNeg)] (mk vi vl) (fun r N' => wp X (d + 1) k_L_law 0 0 1205 [some (.ref 1000000), some (.ref 0), some (.ref 95), some (.int x3)] (pR r []) N' post)) : wp X (d + 1) k_L_law 0 0 1191 [some (.ref 1000000), some (.ref 0), some (.ref 95), some (.int x3)] [] (mk vi vl) post :=
  wr_aload_n (q := 1) (by decide +kernel) rfl rfl <|
  wr_aload_n (q := 0) (by decide +kernel) rfl rfl <|
  wr_iload_n (q := 3) (by decide +kernel) rfl rfl <|
  wr_iconst (n := 1) (v := (1 : Int32)) (by decide +kernel) (by decide) <|
  wr_iadd (by decide +kernel) <|
  wr_sld q1 (by decide +kernel) <|
  wr_aload_n (q := 0) (by decide +kernel) rfl rfl <|
  wr_iload_n (q := 3) (by decide +kernel) rfl rfl <|
  wr_iconst (n := 2) (v := (2 : Int32)) (by decide +kernel) (by decide) <|
  wr_iadd (by decide +kernel) <|
  wr_sld q2 (by decide +kernel) <|
  wr_invV (a := 0) (ci := 3) (mid2 := 103) (idx := 150) (b1 := 0) (b2 := 0) (c1 := 0) (c2 := 0) (as := [.int (X.2 (x3 + (1 : Int32)).toNatClampNeg), .int (X.2 (x3 + (2 : Int32)).toNatClampNeg)]) (st := []) pl_103 rfl (Nat.le_of_ble_eq_true rfl) rfl rfl lq_0 sq_0 (by decide) rfl lm_L_150 im_103 is_103 (by decide +kernel) k1
theorem b_L_law_1205 {X : aX} {d : Nat} {post : aO} {vi : Nat → Nat → Int32} {vl : Nat → Nat → Int64} {x3 y0 : Int32} (q1 : vp_in (x3 + (1 : Int32)) X.1) (q2 : vp_in (x3 + (2 : Int32)) X.1) (k1 : CallOk X d 0 0 k_M_lots [.ref 95, .int (X.2 (x3 + (1 : Int32)).toNatClampNeg), .int (X.2 (x3 + (2 : Int32)).toNatClampNeg)] (mk vi vl) (fun r N' => wp X (d + 1) k_L_law 0 0 1219 [some (.ref 1000000), some (.ref 0), some (.ref 95), some (.int x3)] (pR r [.int y0]) N' post)) : wp X (d + 1) k_L_law 0 0 1205 [some (.ref 1000000), some (.ref 0), some (.ref 95), some (.int x3)] [.int y0] (mk vi vl) post :=
  wr_aload_n (q := 2) (by decide +kernel) rfl rfl <|
  wr_aload_n (q := 0) (by decide +kernel) rfl rfl <|
  wr_iload_n (q := 3) (by decide +kernel) rfl rfl <|
  wr_iconst (n := 1) (v := (1 : Int32)) (by decide +kernel) (by decide) <|
  wr_iadd (by decide +kernel) <|
  wr_sld q1 (by decide +kernel) <|
  wr_aload_n (q := 0) (by decide +kernel) rfl rfl <|
  wr_iload_n (q := 3) (by decide +kernel) rfl rfl <|
  wr_iconst (n := 2) (v := (2 : Int32)) (by decide +kernel) (by decide) <|
  wr_iadd (by decide +kernel) <|
  wr_sld q2 (by decide +kernel) <|
  wr_invV (a := 95) (ci := 4) (mid2 := 192) (idx := 153) (b1 := 0) (b2 := 0) (c1 := 0) (c2 := 0) (as := [.int (X.2 (x3 + (1 : Int32)).toNatClampNeg), .int (X.2 (x3 + (2 : Int32)).toNatClampNeg)]) (st := [.int y0]) pl_192 rfl (Nat.le_of_ble_eq_true rfl) rfl rfl lq_95 sq_95 (by decide) rfl lm_L_153 im_192 is_192 (by decide +kernel) k1
theorem b_L_law_1219 {X : aX} {d : Nat} {post : aO} {vi : Nat → Nat → Int32} {vl : Nat → Nat → Int64} {x3 y0 y1 : Int32} (k1 : y0 = y1 → wp X (d + 1) k_L_law 0 0 1338 [some (.ref 1000000), some (.ref 0), some (.ref 95), some (.int x3)] [] (mk vi vl) post) (k2 : ¬ y0 = y1 → wp X (d + 1) k_L_law 0 0 1222 [some (.ref 1000000), some (.ref 0), some (.ref 95), some (.int x3)] [] (mk vi vl) post) : wp X (d + 1) k_L_law 0 0 1219 [some (.ref 1000000), some (.ref 0), some (.ref 95), some (.int x3)] [.int y1, .int y0] (mk vi vl) post :=
  wr_icmp_eq (off := 119) (t := 1338) (by decide +kernel) (by decide) k1 k2
theorem b_L_law_1222 {X : aX} {d : Nat} {post : aO} {vi : Nat → Nat → Int32} {vl : Nat → Nat → Int64} {x3 : Int32} (k1 : post (some (.int (0 : Int32))) (mk vi vl)) : wp X (d + 1) k_L_law 0 0 1222 [some (.ref 1000000), some (.ref 0), some (.ref 95), some (.int x3)] [] (mk vi vl) post :=
  wr_iconst (n := 0) (v := (0 : Int32)) (by decide +kernel) (by decide) <|
  wr_ret (r := some (.int (0 : Int32))) (Or.inr (Or.inl ⟨_, rfl, (by decide +kernel), (Or.inr ⟨rfl, (by decide)⟩)⟩)) k1
theorem b_L_law_1224 {X : aX} {d : Nat} {post : aO} {vi : Nat → Nat → Int32} {vl : Nat → Nat → Int64} {x3 : Int32} (k1 : CallOk X d 0 0 k_S_asked [.ref 0] (mk vi vl) (fun r N' => wp X (d + 1) k_L_law 0 0 1228 [some (.ref 1000000), some (.ref 0), some (.ref 95), some (.int x3)] (pR r []) N' post)) : wp X (d + 1) k_L_law 0 0 1224 [some (.ref 1000000), some (.ref 0), some (.ref 95), some (.int x3)] [] (mk vi vl) post :=
  wr_aload_n (q := 1) (by decide +kernel) rfl rfl <|
  wr_invV (a := 0) (ci := 3) (mid2 := 104) (idx := 154) (b1 := 0) (b2 := 0) (c1 := 0) (c2 := 0) (as := []) (st := []) pl_104 rfl (Nat.le_of_ble_eq_true rfl) rfl rfl lq_0 sq_0 (by decide) rfl lm_L_154 im_104 is_104 (by decide +kernel) k1
theorem b_L_law_1228 {X : aX} {d : Nat} {post : aO} {vi : Nat → Nat → Int32} {vl : Nat → Nat → Int64} {x3 y0 : Int32} (k1 : CallOk X d 0 0 k_M_asked [.ref 95] (mk vi vl) (fun r N' => wp X (d + 1) k_L_law 0 0 1232 [some (.ref 1000000), some (.ref 0), some (.ref 95), some (.int x3)] (pR r [.int y0]) N' post)) : wp X (d + 1) k_L_law 0 0 1228 [some (.ref 1000000), some (.ref 0), some (.ref 95), some (.int x3)] [.int y0] (mk vi vl) post :=
  wr_aload_n (q := 2) (by decide +kernel) rfl rfl <|
  wr_invV (a := 95) (ci := 4) (mid2 := 193) (idx := 157) (b1 := 0) (b2 := 0) (c1 := 0) (c2 := 0) (as := []) (st := [.int y0]) pl_193 rfl (Nat.le_of_ble_eq_true rfl) rfl rfl lq_95 sq_95 (by decide) rfl lm_L_157 im_193 is_193 (by decide +kernel) k1
theorem b_L_law_1232 {X : aX} {d : Nat} {post : aO} {vi : Nat → Nat → Int32} {vl : Nat → Nat → Int64} {x3 y0 y1 : Int32} (k1 : y0 = y1 → wp X (d + 1) k_L_law 0 0 1338 [some (.ref 1000000), some (.ref 0), some (.ref 95), some (.int x3)] [] (mk vi vl) post) (k2 : ¬ y0 = y1 → wp X (d + 1) k_L_law 0 0 1235 [some (.ref 1000000), some (.ref 0), some (.ref 95), some (.int x3)] [] (mk vi vl) post) : wp X (d + 1) k_L_law 0 0 1232 [some (.ref 1000000), some (.ref 0), some (.ref 95), some (.int x3)] [.int y1, .int y0] (mk vi vl) post :=
  wr_icmp_eq (off := 106) (t := 1338) (by decide +kernel) (by decide) k1 k2
theorem b_L_law_1235 {X : aX} {d : Nat} {post : aO} {vi : Nat → Nat → Int32} {vl : Nat → Nat → Int64} {x3 : Int32} (k1 : post (some (.int (0 : Int32))) (mk vi vl)) : wp X (d + 1) k_L_law 0 0 1235 [some (.ref 1000000), some (.ref 0), some (.ref 95), some (.int x3)] [] (mk vi vl) post :=
  wr_iconst (n := 0) (v := (0 : Int32)) (by decide +kernel) (by decide) <|
  wr_ret (r := some (.int (0 : Int32))) (Or.inr (Or.inl ⟨_, rfl, (by decide +kernel), (Or.inr ⟨rfl, (by decide)⟩)⟩)) k1
theorem b_L_law_1237 {X : aX} {d : Nat} {post : aO} {vi : Nat → Nat → Int32} {vl : Nat → Nat → Int64} {x3 : Int32} (k1 : CallOk X d 0 0 k_S_upper [.ref 0] (mk vi vl) (fun r N' => wp X (d + 1) k_L_law 0 0 1241 [some (.ref 1000000), some (.ref 0), some (.ref 95), some (.int x3)] (pR r []) N' post)) : wp X (d + 1) k_L_law 0 0 1237 [some (.ref 1000000), some (.ref 0), some (.ref 95), some (.int x3)] [] (mk vi vl) post :=
  wr_aload_n (q := 1) (by decide +kernel) rfl rfl <|
  wr_invV (a := 0) (ci := 3) (mid2 := 105) (idx := 158) (b1 := 0) (b2 := 0) (c1 := 0) (c2 := 0) (as := []) (st := []) pl_105 rfl (Nat.le_of_ble_eq_true rfl) rfl rfl lq_0 sq_0 (by decide) rfl lm_L_158 im_105 is_105 (by decide +kernel) k1
theorem b_L_law_1241 {X : aX} {d : Nat} {post : aO} {vi : Nat → Nat → Int32} {vl : Nat → Nat → Int64} {x3 : Int32} {y0 : Int64} (k1 : CallOk X d 0 0 k_M_upper [.ref 95] (mk vi vl) (fun r N' => wp X (d + 1) k_L_law 0 0 1245 [some (.ref 1000000), some (.ref 0), some (.ref 95), some (.int x3)] (pR r [.long y0]) N' post)) : wp X (d + 1) k_L_law 0 0 1241 [some (.ref 1000000), some (.ref 0), some (.ref 95), some (.int x3)] [.long y0] (mk vi vl) post :=
  wr_aload_n (q := 2) (by decide +kernel) rfl rfl <|
  wr_invV (a := 95) (ci := 4) (mid2 := 194) (idx := 162) (b1 := 0) (b2 := 0) (c1 := 0) (c2 := 0) (as := []) (st := [.long y0]) pl_194 rfl (Nat.le_of_ble_eq_true rfl) rfl rfl lq_95 sq_95 (by decide) rfl lm_L_162 im_194 is_194 (by decide +kernel) k1
theorem b_L_law_1245 {X : aX} {d : Nat} {post : aO} {vi : Nat → Nat → Int32} {vl : Nat → Nat → Int64} {x3 : Int32} {y0 y1 : Int64} (k1 : (lg_cmp y0 y1) = 0 → wp X (d + 1) k_L_law 0 0 1338 [some (.ref 1000000), some (.ref 0), some (.ref 95), some (.int x3)] [] (mk vi vl) post) (k2 : ¬ (lg_cmp y0 y1) = 0 → wp X (d + 1) k_L_law 0 0 1249 [some (.ref 1000000), some (.ref 0), some (.ref 95), some (.int x3)] [] (mk vi vl) post) : wp X (d + 1) k_L_law 0 0 1245 [some (.ref 1000000), some (.ref 0), some (.ref 95), some (.int x3)] [.long y1, .long y0] (mk vi vl) post :=
  wr_lcmp (by decide +kernel) <|
  wr_if_eq (off := 92) (t := 1338) (by decide +kernel) (by decide) k1 k2
theorem b_L_law_1249 {X : aX} {d : Nat} {post : aO} {vi : Nat → Nat → Int32} {vl : Nat → Nat → Int64} {x3 : Int32} (k1 : post (some (.int (0 : Int32))) (mk vi vl)) : wp X (d + 1) k_L_law 0 0 1249 [some (.ref 1000000), some (.ref 0), some (.ref 95), some (.int x3)] [] (mk vi vl) post :=
  wr_iconst (n := 0) (v := (0 : Int32)) (by decide +kernel) (by decide) <|
  wr_ret (r := some (.int (0 : Int32))) (Or.inr (Or.inl ⟨_, rfl, (by decide +kernel), (Or.inr ⟨rfl, (by decide)⟩)⟩)) k1
theorem b_L_law_1251 {X : aX} {d : Nat} {post : aO} {vi : Nat → Nat → Int32} {vl : Nat → Nat → Int64} {x3 : Int32} (k1 : CallOk X d 0 0 k_S_lower [.ref 0] (mk vi vl) (fun r N' => wp X (d + 1) k_L_law 0 0 1255 [some (.ref 1000000), some (.ref 0), some (.ref 95), some (.int x3)] (pR r []) N' post)) : wp X (d + 1) k_L_law 0 0 1251 [some (.ref 1000000), some (.ref 0), some (.ref 95), some (.int x3)] [] (mk vi vl) post :=
  wr_aload_n (q := 1) (by decide +kernel) rfl rfl <|
  wr_invV (a := 0) (ci := 3) (mid2 := 106) (idx := 163) (b1 := 0) (b2 := 0) (c1 := 0) (c2 := 0) (as := []) (st := []) pl_106 rfl (Nat.le_of_ble_eq_true rfl) rfl rfl lq_0 sq_0 (by decide) rfl lm_L_163 im_106 is_106 (by decide +kernel) k1
theorem b_L_law_1255 {X : aX} {d : Nat} {post : aO} {vi : Nat → Nat → Int32} {vl : Nat → Nat → Int64} {x3 : Int32} {y0 : Int64} (k1 : CallOk X d 0 0 k_M_lower [.ref 95] (mk vi vl) (fun r N' => wp X (d + 1) k_L_law 0 0 1259 [some (.ref 1000000), some (.ref 0), some (.ref 95), some (.int x3)] (pR r [.long y0]) N' post)) : wp X (d + 1) k_L_law 0 0 1255 [some (.ref 1000000), some (.ref 0), some (.ref 95), some (.int x3)] [.long y0] (mk vi vl) post :=
  wr_aload_n (q := 2) (by decide +kernel) rfl rfl <|
  wr_invV (a := 95) (ci := 4) (mid2 := 195) (idx := 166) (b1 := 0) (b2 := 0) (c1 := 0) (c2 := 0) (as := []) (st := [.long y0]) pl_195 rfl (Nat.le_of_ble_eq_true rfl) rfl rfl lq_95 sq_95 (by decide) rfl lm_L_166 im_195 is_195 (by decide +kernel) k1
theorem b_L_law_1259 {X : aX} {d : Nat} {post : aO} {vi : Nat → Nat → Int32} {vl : Nat → Nat → Int64} {x3 : Int32} {y0 y1 : Int64} (k1 : (lg_cmp y0 y1) = 0 → wp X (d + 1) k_L_law 0 0 1338 [some (.ref 1000000), some (.ref 0), some (.ref 95), some (.int x3)] [] (mk vi vl) post) (k2 : ¬ (lg_cmp y0 y1) = 0 → wp X (d + 1) k_L_law 0 0 1263 [some (.ref 1000000), some (.ref 0), some (.ref 95), some (.int x3)] [] (mk vi vl) post) : wp X (d + 1) k_L_law 0 0 1259 [some (.ref 1000000), some (.ref 0), some (.ref 95), some (.int x3)] [.long y1, .long y0] (mk vi vl) post :=
  wr_lcmp (by decide +kernel) <|
  wr_if_eq (off := 78) (t := 1338) (by decide +kernel) (by decide) k1 k2
theorem b_L_law_1263 {X : aX} {d : Nat} {post : aO} {vi : Nat → Nat → Int32} {vl : Nat → Nat → Int64} {x3 : Int32} (k1 : post (some (.int (0 : Int32))) (mk vi vl)) : wp X (d + 1) k_L_law 0 0 1263 [some (.ref 1000000), some (.ref 0), some (.ref 95), some (.int x3)] [] (mk vi vl) post :=
  wr_iconst (n := 0) (v := (0 : Int32)) (by decide +kernel) (by decide) <|
  wr_ret (r := some (.int (0 : Int32))) (Or.inr (Or.inl ⟨_, rfl, (by decide +kernel), (Or.inr ⟨rfl, (by decide)⟩)⟩)) k1
theorem b_L_law_1265 {X : aX} {d : Nat} {post : aO} {vi : Nat → Nat → Int32} {vl : Nat → Nat → Int64} {x3 : Int32} (q1 : vp_in (x3 + (1 : Int32)) X.1) (k1 : CallOk X d 0 0 k_S_count [.ref 0, .int (X.2 (x3 + (1 : Int32)).toNatClampNeg)] (mk vi vl) (fun r N' => wp X (d + 1) k_L_law 0 0 1274 [some (.ref 1000000), some (.ref 0), some (.ref 95), some (.int x3)] (pR r []) N' post)) : wp X (d + 1) k_L_law 0 0 1265 [some (.ref 1000000), some (.ref 0), some (.ref 95), some (.int x3)] [] (mk vi vl) post :=
  wr_aload_n (q := 1) (by decide +kernel) rfl rfl <|
  wr_aload_n (q := 0) (by decide +kernel) rfl rfl <|
  wr_iload_n (q := 3) (by decide +kernel) rfl rfl <|
  wr_iconst (n := 1) (v := (1 : Int32)) (by decide +kernel) (by decide) <|
  wr_iadd (by decide +kernel) <|
  wr_sld q1 (by decide +kernel) <|
  wr_invV (a := 0) (ci := 3) (mid2 := 107) (idx := 167) (b1 := 0) (b2 := 0) (c1 := 0) (c2 := 0) (as := [.int (X.2 (x3 + (1 : Int32)).toNatClampNeg)]) (st := []) pl_107 rfl (Nat.le_of_ble_eq_true rfl) rfl rfl lq_0 sq_0 (by decide) rfl lm_L_167 im_107 is_107 (by decide +kernel) k1
theorem b_L_law_1274 {X : aX} {d : Nat} {post : aO} {vi : Nat → Nat → Int32} {vl : Nat → Nat → Int64} {x3 y0 : Int32} (q1 : vp_in (x3 + (1 : Int32)) X.1) (k1 : CallOk X d 0 0 k_M_count [.ref 95, .int (X.2 (x3 + (1 : Int32)).toNatClampNeg)] (mk vi vl) (fun r N' => wp X (d + 1) k_L_law 0 0 1283 [some (.ref 1000000), some (.ref 0), some (.ref 95), some (.int x3)] (pR r [.int y0]) N' post)) : wp X (d + 1) k_L_law 0 0 1274 [some (.ref 1000000), some (.ref 0), some (.ref 95), some (.int x3)] [.int y0] (mk vi vl) post :=
  wr_aload_n (q := 2) (by decide +kernel) rfl rfl <|
  wr_aload_n (q := 0) (by decide +kernel) rfl rfl <|
  wr_iload_n (q := 3) (by decide +kernel) rfl rfl <|
  wr_iconst (n := 1) (v := (1 : Int32)) (by decide +kernel) (by decide) <|
  wr_iadd (by decide +kernel) <|
  wr_sld q1 (by decide +kernel) <|
  wr_invV (a := 95) (ci := 4) (mid2 := 196) (idx := 170) (b1 := 0) (b2 := 0) (c1 := 0) (c2 := 0) (as := [.int (X.2 (x3 + (1 : Int32)).toNatClampNeg)]) (st := [.int y0]) pl_196 rfl (Nat.le_of_ble_eq_true rfl) rfl rfl lq_95 sq_95 (by decide) rfl lm_L_170 im_196 is_196 (by decide +kernel) k1
theorem b_L_law_1283 {X : aX} {d : Nat} {post : aO} {vi : Nat → Nat → Int32} {vl : Nat → Nat → Int64} {x3 y0 y1 : Int32} (k1 : y0 = y1 → wp X (d + 1) k_L_law 0 0 1338 [some (.ref 1000000), some (.ref 0), some (.ref 95), some (.int x3)] [] (mk vi vl) post) (k2 : ¬ y0 = y1 → wp X (d + 1) k_L_law 0 0 1286 [some (.ref 1000000), some (.ref 0), some (.ref 95), some (.int x3)] [] (mk vi vl) post) : wp X (d + 1) k_L_law 0 0 1283 [some (.ref 1000000), some (.ref 0), some (.ref 95), some (.int x3)] [.int y1, .int y0] (mk vi vl) post :=
  wr_icmp_eq (off := 55) (t := 1338) (by decide +kernel) (by decide) k1 k2
theorem b_L_law_1286 {X : aX} {d : Nat} {post : aO} {vi : Nat → Nat → Int32} {vl : Nat → Nat → Int64} {x3 : Int32} (k1 : post (some (.int (0 : Int32))) (mk vi vl)) : wp X (d + 1) k_L_law 0 0 1286 [some (.ref 1000000), some (.ref 0), some (.ref 95), some (.int x3)] [] (mk vi vl) post :=
  wr_iconst (n := 0) (v := (0 : Int32)) (by decide +kernel) (by decide) <|
  wr_ret (r := some (.int (0 : Int32))) (Or.inr (Or.inl ⟨_, rfl, (by decide +kernel), (Or.inr ⟨rfl, (by decide)⟩)⟩)) k1
theorem b_L_law_1288 {X : aX} {d : Nat} {post : aO} {vi : Nat → Nat → Int32} {vl : Nat → Nat → Int64} {x3 : Int32} (k1 : CallOk X d 0 0 k_S_finding [.ref 0] (mk vi vl) (fun r N' => wp X (d + 1) k_L_law 0 0 1292 [some (.ref 1000000), some (.ref 0), some (.ref 95), some (.int x3)] (pR r []) N' post)) : wp X (d + 1) k_L_law 0 0 1288 [some (.ref 1000000), some (.ref 0), some (.ref 95), some (.int x3)] [] (mk vi vl) post :=
  wr_aload_n (q := 1) (by decide +kernel) rfl rfl <|
  wr_invV (a := 0) (ci := 3) (mid2 := 111) (idx := 171) (b1 := 0) (b2 := 0) (c1 := 0) (c2 := 0) (as := []) (st := []) pl_111 rfl (Nat.le_of_ble_eq_true rfl) rfl rfl lq_0 sq_0 (by decide) rfl lm_L_171 im_111 is_111 (by decide +kernel) k1
theorem b_L_law_1292 {X : aX} {d : Nat} {post : aO} {vi : Nat → Nat → Int32} {vl : Nat → Nat → Int64} {x3 y0 : Int32} (k1 : CallOk X d 0 0 k_M_finding [.ref 95] (mk vi vl) (fun r N' => wp X (d + 1) k_L_law 0 0 1296 [some (.ref 1000000), some (.ref 0), some (.ref 95), some (.int x3)] (pR r [.int y0]) N' post)) : wp X (d + 1) k_L_law 0 0 1292 [some (.ref 1000000), some (.ref 0), some (.ref 95), some (.int x3)] [.int y0] (mk vi vl) post :=
  wr_aload_n (q := 2) (by decide +kernel) rfl rfl <|
  wr_invV (a := 95) (ci := 4) (mid2 := 199) (idx := 174) (b1 := 0) (b2 := 0) (c1 := 0) (c2 := 0) (as := []) (st := [.int y0]) pl_199 rfl (Nat.le_of_ble_eq_true rfl) rfl rfl lq_95 sq_95 (by decide) rfl lm_L_174 im_199 is_199 (by decide +kernel) k1
theorem b_L_law_1296 {X : aX} {d : Nat} {post : aO} {vi : Nat → Nat → Int32} {vl : Nat → Nat → Int64} {x3 y0 y1 : Int32} (k1 : y0 = y1 → wp X (d + 1) k_L_law 0 0 1338 [some (.ref 1000000), some (.ref 0), some (.ref 95), some (.int x3)] [] (mk vi vl) post) (k2 : ¬ y0 = y1 → wp X (d + 1) k_L_law 0 0 1299 [some (.ref 1000000), some (.ref 0), some (.ref 95), some (.int x3)] [] (mk vi vl) post) : wp X (d + 1) k_L_law 0 0 1296 [some (.ref 1000000), some (.ref 0), some (.ref 95), some (.int x3)] [.int y1, .int y0] (mk vi vl) post :=
  wr_icmp_eq (off := 42) (t := 1338) (by decide +kernel) (by decide) k1 k2
theorem b_L_law_1299 {X : aX} {d : Nat} {post : aO} {vi : Nat → Nat → Int32} {vl : Nat → Nat → Int64} {x3 : Int32} (k1 : post (some (.int (0 : Int32))) (mk vi vl)) : wp X (d + 1) k_L_law 0 0 1299 [some (.ref 1000000), some (.ref 0), some (.ref 95), some (.int x3)] [] (mk vi vl) post :=
  wr_iconst (n := 0) (v := (0 : Int32)) (by decide +kernel) (by decide) <|
  wr_ret (r := some (.int (0 : Int32))) (Or.inr (Or.inl ⟨_, rfl, (by decide +kernel), (Or.inr ⟨rfl, (by decide)⟩)⟩)) k1
theorem b_L_law_1301 {X : aX} {d : Nat} {post : aO} {vi : Nat → Nat → Int32} {vl : Nat → Nat → Int64} {x3 : Int32} (q1 : vp_in (x3 + (1 : Int32)) X.1) (k1 : CallOk X d 0 0 k_S_findings [.ref 0, .int (X.2 (x3 + (1 : Int32)).toNatClampNeg)] (mk vi vl) (fun r N' => wp X (d + 1) k_L_law 0 0 1310 [some (.ref 1000000), some (.ref 0), some (.ref 95), some (.int x3)] (pR r []) N' post)) : wp X (d + 1) k_L_law 0 0 1301 [some (.ref 1000000), some (.ref 0), some (.ref 95), some (.int x3)] [] (mk vi vl) post :=
  wr_aload_n (q := 1) (by decide +kernel) rfl rfl <|
  wr_aload_n (q := 0) (by decide +kernel) rfl rfl <|
  wr_iload_n (q := 3) (by decide +kernel) rfl rfl <|
  wr_iconst (n := 1) (v := (1 : Int32)) (by decide +kernel) (by decide) <|
  wr_iadd (by decide +kernel) <|
  wr_sld q1 (by decide +kernel) <|
  wr_invV (a := 0) (ci := 3) (mid2 := 112) (idx := 175) (b1 := 0) (b2 := 0) (c1 := 0) (c2 := 0) (as := [.int (X.2 (x3 + (1 : Int32)).toNatClampNeg)]) (st := []) pl_112 rfl (Nat.le_of_ble_eq_true rfl) rfl rfl lq_0 sq_0 (by decide) rfl lm_L_175 im_112 is_112 (by decide +kernel) k1
theorem b_L_law_1310 {X : aX} {d : Nat} {post : aO} {vi : Nat → Nat → Int32} {vl : Nat → Nat → Int64} {x3 y0 : Int32} (q1 : vp_in (x3 + (1 : Int32)) X.1) (k1 : CallOk X d 0 0 k_M_findings [.ref 95, .int (X.2 (x3 + (1 : Int32)).toNatClampNeg)] (mk vi vl) (fun r N' => wp X (d + 1) k_L_law 0 0 1319 [some (.ref 1000000), some (.ref 0), some (.ref 95), some (.int x3)] (pR r [.int y0]) N' post)) : wp X (d + 1) k_L_law 0 0 1310 [some (.ref 1000000), some (.ref 0), some (.ref 95), some (.int x3)] [.int y0] (mk vi vl) post :=
  wr_aload_n (q := 2) (by decide +kernel) rfl rfl <|
  wr_aload_n (q := 0) (by decide +kernel) rfl rfl <|
  wr_iload_n (q := 3) (by decide +kernel) rfl rfl <|
  wr_iconst (n := 1) (v := (1 : Int32)) (by decide +kernel) (by decide) <|
  wr_iadd (by decide +kernel) <|
  wr_sld q1 (by decide +kernel) <|
  wr_invV (a := 95) (ci := 4) (mid2 := 200) (idx := 178) (b1 := 0) (b2 := 0) (c1 := 0) (c2 := 0) (as := [.int (X.2 (x3 + (1 : Int32)).toNatClampNeg)]) (st := [.int y0]) pl_200 rfl (Nat.le_of_ble_eq_true rfl) rfl rfl lq_95 sq_95 (by decide) rfl lm_L_178 im_200 is_200 (by decide +kernel) k1
theorem b_L_law_1319 {X : aX} {d : Nat} {post : aO} {vi : Nat → Nat → Int32} {vl : Nat → Nat → Int64} {x3 y0 y1 : Int32} (k1 : y0 = y1 → wp X (d + 1) k_L_law 0 0 1338 [some (.ref 1000000), some (.ref 0), some (.ref 95), some (.int x3)] [] (mk vi vl) post) (k2 : ¬ y0 = y1 → wp X (d + 1) k_L_law 0 0 1322 [some (.ref 1000000), some (.ref 0), some (.ref 95), some (.int x3)] [] (mk vi vl) post) : wp X (d + 1) k_L_law 0 0 1319 [some (.ref 1000000), some (.ref 0), some (.ref 95), some (.int x3)] [.int y1, .int y0] (mk vi vl) post :=
  wr_icmp_eq (off := 19) (t := 1338) (by decide +kernel) (by decide) k1 k2
theorem b_L_law_1322 {X : aX} {d : Nat} {post : aO} {vi : Nat → Nat → Int32} {vl : Nat → Nat → Int64} {x3 : Int32} (k1 : post (some (.int (0 : Int32))) (mk vi vl)) : wp X (d + 1) k_L_law 0 0 1322 [some (.ref 1000000), some (.ref 0), some (.ref 95), some (.int x3)] [] (mk vi vl) post :=
  wr_iconst (n := 0) (v := (0 : Int32)) (by decide +kernel) (by decide) <|
  wr_ret (r := some (.int (0 : Int32))) (Or.inr (Or.inl ⟨_, rfl, (by decide +kernel), (Or.inr ⟨rfl, (by decide)⟩)⟩)) k1
theorem b_L_law_1324 {X : aX} {d : Nat} {post : aO} {vi : Nat → Nat → Int32} {vl : Nat → Nat → Int64} {x3 : Int32} (k1 : CallOk X d 0 0 k_S_digest [.ref 0] (mk vi vl) (fun r N' => wp X (d + 1) k_L_law 0 0 1328 [some (.ref 1000000), some (.ref 0), some (.ref 95), some (.int x3)] (pR r []) N' post)) : wp X (d + 1) k_L_law 0 0 1324 [some (.ref 1000000), some (.ref 0), some (.ref 95), some (.int x3)] [] (mk vi vl) post :=
  wr_aload_n (q := 1) (by decide +kernel) rfl rfl <|
  wr_invV (a := 0) (ci := 3) (mid2 := 113) (idx := 179) (b1 := 0) (b2 := 0) (c1 := 0) (c2 := 0) (as := []) (st := []) pl_113 rfl (Nat.le_of_ble_eq_true rfl) rfl rfl lq_0 sq_0 (by decide) rfl lm_L_179 im_113 is_113 (by decide +kernel) k1
theorem b_L_law_1328 {X : aX} {d : Nat} {post : aO} {vi : Nat → Nat → Int32} {vl : Nat → Nat → Int64} {x3 : Int32} {y0 : Int64} (k1 : CallOk X d 0 0 k_M_digest [.ref 95] (mk vi vl) (fun r N' => wp X (d + 1) k_L_law 0 0 1332 [some (.ref 1000000), some (.ref 0), some (.ref 95), some (.int x3)] (pR r [.long y0]) N' post)) : wp X (d + 1) k_L_law 0 0 1328 [some (.ref 1000000), some (.ref 0), some (.ref 95), some (.int x3)] [.long y0] (mk vi vl) post :=
  wr_aload_n (q := 2) (by decide +kernel) rfl rfl <|
  wr_invV (a := 95) (ci := 4) (mid2 := 201) (idx := 182) (b1 := 0) (b2 := 0) (c1 := 0) (c2 := 0) (as := []) (st := [.long y0]) pl_201 rfl (Nat.le_of_ble_eq_true rfl) rfl rfl lq_95 sq_95 (by decide) rfl lm_L_182 im_201 is_201 (by decide +kernel) k1
theorem b_L_law_1332 {X : aX} {d : Nat} {post : aO} {vi : Nat → Nat → Int32} {vl : Nat → Nat → Int64} {x3 : Int32} {y0 y1 : Int64} (k1 : (lg_cmp y0 y1) = 0 → wp X (d + 1) k_L_law 0 0 1338 [some (.ref 1000000), some (.ref 0), some (.ref 95), some (.int x3)] [] (mk vi vl) post) (k2 : ¬ (lg_cmp y0 y1) = 0 → wp X (d + 1) k_L_law 0 0 1336 [some (.ref 1000000), some (.ref 0), some (.ref 95), some (.int x3)] [] (mk vi vl) post) : wp X (d + 1) k_L_law 0 0 1332 [some (.ref 1000000), some (.ref 0), some (.ref 95), some (.int x3)] [.long y1, .long y0] (mk vi vl) post :=
  wr_lcmp (by decide +kernel) <|
  wr_if_eq (off := 5) (t := 1338) (by decide +kernel) (by decide) k1 k2
theorem b_L_law_1336 {X : aX} {d : Nat} {post : aO} {vi : Nat → Nat → Int32} {vl : Nat → Nat → Int64} {x3 : Int32} (k1 : post (some (.int (0 : Int32))) (mk vi vl)) : wp X (d + 1) k_L_law 0 0 1336 [some (.ref 1000000), some (.ref 0), some (.ref 95), some (.int x3)] [] (mk vi vl) post :=
  wr_iconst (n := 0) (v := (0 : Int32)) (by decide +kernel) (by decide) <|
  wr_ret (r := some (.int (0 : Int32))) (Or.inr (Or.inl ⟨_, rfl, (by decide +kernel), (Or.inr ⟨rfl, (by decide)⟩)⟩)) k1
theorem b_L_law_1338 {X : aX} {d : Nat} {post : aO} {vi : Nat → Nat → Int32} {vl : Nat → Nat → Int64} {x3 : Int32} (k1 : wp X (d + 1) k_L_law 0 0 18 [some (.ref 1000000), some (.ref 0), some (.ref 95), some (.int (x3 + (6 : Int32)))] [] (mk vi vl) post) : wp X (d + 1) k_L_law 0 0 1338 [some (.ref 1000000), some (.ref 0), some (.ref 95), some (.int x3)] [] (mk vi vl) post :=
  wr_iinc (i := 3) (n := 6) (v := (6 : Int32)) (by decide +kernel) rfl (by decide) (by decide) <|
  wr_goto (off := -1323) (t := 18) (by decide +kernel) (by decide) k1
theorem b_L_law_1344 {X : aX} {d : Nat} {post : aO} {vi : Nat → Nat → Int32} {vl : Nat → Nat → Int64} {x3 : Int32} (k1 : post (some (.int (1 : Int32))) (mk vi vl)) : wp X (d + 1) k_L_law 0 0 1344 [some (.ref 1000000), some (.ref 0), some (.ref 95), some (.int x3)] [] (mk vi vl) post :=
  wr_iconst (n := 1) (v := (1 : Int32)) (by decide +kernel) (by decide) <|
  wr_ret (r := some (.int (1 : Int32))) (Or.inr (Or.inl ⟨_, rfl, (by decide +kernel), (Or.inr ⟨rfl, (by decide)⟩)⟩)) k1
