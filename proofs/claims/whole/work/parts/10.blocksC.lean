theorem lx_S : Cond.methodLink "SewnAhead" 90 arraycopyName ∈ am_big := am_at 228 (by decide +kernel) rfl
theorem lx_C : Cond.methodLink "SewnAhead$Cloth" 52 arraycopyName ∈ am_big := am_at 298 (by decide +kernel) rfl
theorem lx_P : Cond.methodLink "SewnAhead$Plans" 100 arraycopyName ∈ am_big := am_at 497 (by decide +kernel) rfl
theorem lx_na : Cond.native arraycopyName ∈ am_big := am_at 230 (by decide +kernel) rfl
theorem lx_st : Cond.static arraycopyName ∈ am_big := am_at 229 (by decide +kernel) rfl
theorem lx_in : Cond.initialized "java/lang/System" ∈ am_big := in_java_lang_System
theorem b_C_clear_0 {X : aX} {d : Nat} {post : aO} {vi : Nat → Nat → Int32} {vl : Nat → Nat → Int64} {v0 : Nat} (hv0 : isCl v0) (k1 : ∀ w, w = up2 vi v0 0 (0 : Int32) → wp X (d + 1) k_C_clear 0 0 5 [some (.ref v0)] [] (mk w vl) post) : wp X (d + 1) k_C_clear 0 0 0 [some (.ref v0)] [] (mk vi vl) post :=
  wr_aload_n (q := 0) (by decide +kernel) rfl rfl <|
  wr_iconst (n := 0) (v := (0 : Int32)) (by decide +kernel) (by decide) <|
  wr_putI (ci := 0) (k0 := 0) (idx := 9) (cl_lt0 hv0) (cl_s0 hv0) (by decide) (by decide) lf_C_9 rfl (by decide +kernel) <|
  k1 _ rfl
theorem b_C_clear_5 {X : aX} {d : Nat} {post : aO} {vi : Nat → Nat → Int32} {vl : Nat → Nat → Int64} {v0 : Nat} (hv0 : isCl v0) (k1 : ∀ w, w = up2 vi v0 3 (0 : Int32) → wp X (d + 1) k_C_clear 0 0 10 [some (.ref v0)] [] (mk w vl) post) : wp X (d + 1) k_C_clear 0 0 5 [some (.ref v0)] [] (mk vi vl) post :=
  wr_aload_n (q := 0) (by decide +kernel) rfl rfl <|
  wr_iconst (n := 0) (v := (0 : Int32)) (by decide +kernel) (by decide) <|
  wr_putI (ci := 0) (k0 := 3) (idx := 22) (cl_lt0 hv0) (cl_s0 hv0) (by decide) (by decide) lf_C_22 rfl (by decide +kernel) <|
  k1 _ rfl
theorem b_C_clear_10 {X : aX} {d : Nat} {post : aO} {vi : Nat → Nat → Int32} {vl : Nat → Nat → Int64} {v0 : Nat} (hv0 : isCl v0) (k1 : ∀ w, w = up2 vi v0 7 (0 : Int32) → wp X (d + 1) k_C_clear 0 0 15 [some (.ref v0)] [] (mk w vl) post) : wp X (d + 1) k_C_clear 0 0 10 [some (.ref v0)] [] (mk vi vl) post :=
  wr_aload_n (q := 0) (by decide +kernel) rfl rfl <|
  wr_iconst (n := 0) (v := (0 : Int32)) (by decide +kernel) (by decide) <|
  wr_putI (ci := 0) (k0 := 7) (idx := 34) (cl_lt0 hv0) (cl_s0 hv0) (by decide) (by decide) lf_C_34 rfl (by decide +kernel) <|
  k1 _ rfl
theorem b_C_clear_15 {X : aX} {d : Nat} {post : aO} {vi : Nat → Nat → Int32} {vl : Nat → Nat → Int64} {v0 : Nat} (k1 : post none (mk vi vl)) : wp X (d + 1) k_C_clear 0 0 15 [some (.ref v0)] [] (mk vi vl) post :=
  wr_ret (r := none) (Or.inl ⟨rfl, (by decide +kernel), rfl⟩) k1
theorem b_C_addYear_0 {X : aX} {d : Nat} {post : aO} {vi : Nat → Nat → Int32} {vl : Nat → Nat → Int64} {v0 : Nat} {x1 : Int32} (hv0 : isCl v0) (k1 : (5 : Int32) ≤ (vi v0 0) → wp X (d + 1) k_C_addYear 0 0 38 [some (.ref v0), some (.int x1)] [] (mk vi vl) post) (k2 : ¬ (5 : Int32) ≤ (vi v0 0) → wp X (d + 1) k_C_addYear 0 0 8 [some (.ref v0), some (.int x1)] [] (mk vi vl) post) : wp X (d + 1) k_C_addYear 0 0 0 [some (.ref v0), some (.int x1)] [] (mk vi vl) post :=
  wr_aload_n (q := 0) (by decide +kernel) rfl rfl <|
  wr_getI (ci := 0) (k0 := 0) (idx := 9) (cl_lt0 hv0) (cl_s0 hv0) (by decide) (by decide) lf_C_9 (Or.inl rfl) (by decide +kernel) <|
  wr_iconst (n := 5) (v := (5 : Int32)) (by decide +kernel) (by decide) <|
  wr_icmp_ge (off := 33) (t := 38) (by decide +kernel) (by decide) k1 k2
theorem b_C_addYear_8 {X : aX} {d : Nat} {post : aO} {vi : Nat → Nat → Int32} {vl : Nat → Nat → Int64} {v0 : Nat} {x1 : Int32} (hv0 : isCl v0) (k1 : ¬ x1 = (-9 : Int32) → wp X (d + 1) k_C_addYear 0 0 23 [some (.ref v0), some (.int x1)] [.int (vi v0 0), .ref v0] (mk vi vl) post) (k2 : x1 = (-9 : Int32) → wp X (d + 1) k_C_addYear 0 0 19 [some (.ref v0), some (.int x1)] [.int (vi v0 0), .ref v0] (mk vi vl) post) : wp X (d + 1) k_C_addYear 0 0 8 [some (.ref v0), some (.int x1)] [] (mk vi vl) post :=
  wr_aload_n (q := 0) (by decide +kernel) rfl rfl <|
  wr_aload_n (q := 0) (by decide +kernel) rfl rfl <|
  wr_getI (ci := 0) (k0 := 0) (idx := 9) (cl_lt0 hv0) (cl_s0 hv0) (by decide) (by decide) lf_C_9 (Or.inl rfl) (by decide +kernel) <|
  wr_iload_n (q := 1) (by decide +kernel) rfl rfl <|
  wr_bipush (n := -9) (v := (-9 : Int32)) (by decide +kernel) (by decide) <|
  wr_icmp_ne (off := 7) (t := 23) (by decide +kernel) (by decide) k1 k2
theorem b_C_addYear_19 {X : aX} {d : Nat} {post : aO} {vi : Nat → Nat → Int32} {vl : Nat → Nat → Int64} {v0 : Nat} {x1 y1 : Int32} (k1 : wp X (d + 1) k_C_addYear 0 0 24 [some (.ref v0), some (.int x1)] [.int (0 : Int32), .int y1, .ref v0] (mk vi vl) post) : wp X (d + 1) k_C_addYear 0 0 19 [some (.ref v0), some (.int x1)] [.int y1, .ref v0] (mk vi vl) post :=
  wr_iconst (n := 0) (v := (0 : Int32)) (by decide +kernel) (by decide) <|
  wr_goto (off := 4) (t := 24) (by decide +kernel) (by decide) k1
theorem b_C_addYear_23 {X : aX} {d : Nat} {post : aO} {vi : Nat → Nat → Int32} {vl : Nat → Nat → Int64} {v0 : Nat} {x1 y1 : Int32} (k1 : wp X (d + 1) k_C_addYear 0 0 24 [some (.ref v0), some (.int x1)] [.int (1 : Int32), .int y1, .ref v0] (mk vi vl) post) : wp X (d + 1) k_C_addYear 0 0 23 [some (.ref v0), some (.int x1)] [.int y1, .ref v0] (mk vi vl) post :=
  wr_iconst (n := 1) (v := (1 : Int32)) (by decide +kernel) (by decide) <|
  k1
theorem b_C_addYear_24 {X : aX} {d : Nat} {post : aO} {vi : Nat → Nat → Int32} {vl : Nat → Nat → Int64} {v0 : Nat} {x1 y1 y2 : Int32} (k1 : CallOk X d 0 0 k_C_set [.ref v0, .int y1, .int y2, .int x1] (mk vi vl) (fun r N' => wp X (d + 1) k_C_addYear 0 0 28 [some (.ref v0), some (.int x1)] (pR r []) N' post)) (hv0 : isCl v0) : wp X (d + 1) k_C_addYear 0 0 24 [some (.ref v0), some (.int x1)] [.int y2, .int y1, .ref v0] (mk vi vl) post :=
  wr_iload_n (q := 1) (by decide +kernel) rfl rfl <|
  wr_invV (a := v0) (ci := 0) (mid2 := 33) (idx := 58) (b1 := 0) (b2 := 0) (c1 := 0) (c2 := 0) (as := [.int y1, .int y2, .int x1]) (st := []) pl_33 rfl (Nat.le_of_ble_eq_true rfl) rfl rfl (cl_lt0 hv0) (cl_s0 hv0) (by decide) rfl lm_C_58 im_33 is_33 (by decide +kernel) k1
theorem b_C_addYear_28 {X : aX} {d : Nat} {post : aO} {vi : Nat → Nat → Int32} {vl : Nat → Nat → Int64} {v0 : Nat} {x1 : Int32} (hv0 : isCl v0) (k1 : ∀ w, w = up2 vi v0 0 ((vi v0 0) + (1 : Int32)) → wp X (d + 1) k_C_addYear 0 0 38 [some (.ref v0), some (.int x1)] [] (mk w vl) post) : wp X (d + 1) k_C_addYear 0 0 28 [some (.ref v0), some (.int x1)] [] (mk vi vl) post :=
  wr_aload_n (q := 0) (by decide +kernel) rfl rfl <|
  wr_dup (by decide +kernel) rfl <|
  wr_getI (ci := 0) (k0 := 0) (idx := 9) (cl_lt0 hv0) (cl_s0 hv0) (by decide) (by decide) lf_C_9 (Or.inl rfl) (by decide +kernel) <|
  wr_iconst (n := 1) (v := (1 : Int32)) (by decide +kernel) (by decide) <|
  wr_iadd (by decide +kernel) <|
  wr_putI (ci := 0) (k0 := 0) (idx := 9) (cl_lt0 hv0) (cl_s0 hv0) (by decide) (by decide) lf_C_9 rfl (by decide +kernel) <|
  k1 _ rfl
theorem b_C_addYear_38 {X : aX} {d : Nat} {post : aO} {vi : Nat → Nat → Int32} {vl : Nat → Nat → Int64} {v0 : Nat} {x1 : Int32} (k1 : post none (mk vi vl)) : wp X (d + 1) k_C_addYear 0 0 38 [some (.ref v0), some (.int x1)] [] (mk vi vl) post :=
  wr_ret (r := none) (Or.inl ⟨rfl, (by decide +kernel), rfl⟩) k1
theorem b_C_set_0 {X : aX} {d : Nat} {post : aO} {vi : Nat → Nat → Int32} {vl : Nat → Nat → Int64} {v0 : Nat} {x1 x2 x3 : Int32} (hv0 : isCl v0) (q1 : vp_in x1 5) (k1 : ∀ w, w = up2 vi (v0 + 1) x1.toNatClampNeg x2 → wp X (d + 1) k_C_set 0 0 7 [some (.ref v0), some (.int x1), some (.int x2), some (.int x3)] [] (mk w vl) post) : wp X (d + 1) k_C_set 0 0 0 [some (.ref v0), some (.int x1), some (.int x2), some (.int x3)] [] (mk vi vl) post :=
  wr_aload_n (q := 0) (by decide +kernel) rfl rfl <|
  wr_getR2 (b := v0 + 1) (ci := 0) (k0 := 1) (idx := 15) (cl_lt0 hv0) (cl_s0 hv0) (by decide) (by decide) lf_C_15 rfl (cl_v1 hv0) (cl_lt hv0 1 (by decide)) (by decide +kernel) <|
  wr_iload_n (q := 1) (by decide +kernel) rfl rfl <|
  wr_iload_n (q := 2) (by decide +kernel) rfl rfl <|
  wr_iast (cl_lt hv0 1 (by decide)) (cl_s1 hv0) q1 (by decide +kernel) <|
  k1 _ rfl
theorem b_C_set_7 {X : aX} {d : Nat} {post : aO} {vi : Nat → Nat → Int32} {vl : Nat → Nat → Int64} {v0 : Nat} {x1 x2 x3 : Int32} (hv0 : isCl v0) (q1 : vp_in x1 5) (k1 : ∀ w, w = up2 vi (v0 + 2) x1.toNatClampNeg x3 → wp X (d + 1) k_C_set 0 0 14 [some (.ref v0), some (.int x1), some (.int x2), some (.int x3)] [] (mk w vl) post) : wp X (d + 1) k_C_set 0 0 7 [some (.ref v0), some (.int x1), some (.int x2), some (.int x3)] [] (mk vi vl) post :=
  wr_aload_n (q := 0) (by decide +kernel) rfl rfl <|
  wr_getR2 (b := v0 + 2) (ci := 0) (k0 := 2) (idx := 19) (cl_lt0 hv0) (cl_s0 hv0) (by decide) (by decide) lf_C_19 rfl (cl_v2 hv0) (cl_lt hv0 2 (by decide)) (by decide +kernel) <|
  wr_iload_n (q := 1) (by decide +kernel) rfl rfl <|
  wr_iload_n (q := 3) (by decide +kernel) rfl rfl <|
  wr_iast (cl_lt hv0 2 (by decide)) (cl_s2 hv0) q1 (by decide +kernel) <|
  k1 _ rfl
theorem b_C_set_14 {X : aX} {d : Nat} {post : aO} {vi : Nat → Nat → Int32} {vl : Nat → Nat → Int64} {v0 : Nat} {x1 x2 x3 : Int32} (k1 : post none (mk vi vl)) : wp X (d + 1) k_C_set 0 0 14 [some (.ref v0), some (.int x1), some (.int x2), some (.int x3)] [] (mk vi vl) post :=
  wr_ret (r := none) (Or.inl ⟨rfl, (by decide +kernel), rfl⟩) k1
theorem b_C_addLaw_0 {X : aX} {d : Nat} {post : aO} {vi : Nat → Nat → Int32} {vl : Nat → Nat → Int64} {v0 : Nat} {x1 x2 x3 : Int32} (hv0 : isCl v0) (k1 : (8 : Int32) ≤ (vi v0 3) → wp X (d + 1) k_C_addLaw 0 0 49 [some (.ref v0), some (.int x1), some (.int x2), some (.int x3)] [] (mk vi vl) post) (k2 : ¬ (8 : Int32) ≤ (vi v0 3) → wp X (d + 1) k_C_addLaw 0 0 9 [some (.ref v0), some (.int x1), some (.int x2), some (.int x3)] [] (mk vi vl) post) : wp X (d + 1) k_C_addLaw 0 0 0 [some (.ref v0), some (.int x1), some (.int x2), some (.int x3)] [] (mk vi vl) post :=
  wr_aload_n (q := 0) (by decide +kernel) rfl rfl <|
  wr_getI (ci := 0) (k0 := 3) (idx := 22) (cl_lt0 hv0) (cl_s0 hv0) (by decide) (by decide) lf_C_22 (Or.inl rfl) (by decide +kernel) <|
  wr_bipush (n := 8) (v := (8 : Int32)) (by decide +kernel) (by decide) <|
  wr_icmp_ge (off := 43) (t := 49) (by decide +kernel) (by decide) k1 k2
theorem b_C_addLaw_9 {X : aX} {d : Nat} {post : aO} {vi : Nat → Nat → Int32} {vl : Nat → Nat → Int64} {v0 : Nat} {x1 x2 x3 : Int32} (hv0 : isCl v0) (q1 : vp_in (vi v0 3) 8) (k1 : ∀ w, w = up2 vi (v0 + 3) (vi v0 3).toNatClampNeg x1 → wp X (d + 1) k_C_addLaw 0 0 19 [some (.ref v0), some (.int x1), some (.int x2), some (.int x3)] [] (mk w vl) post) : wp X (d + 1) k_C_addLaw 0 0 9 [some (.ref v0), some (.int x1), some (.int x2), some (.int x3)] [] (mk vi vl) post :=
  wr_aload_n (q := 0) (by decide +kernel) rfl rfl <|
  wr_getR2 (b := v0 + 3) (ci := 0) (k0 := 4) (idx := 25) (cl_lt0 hv0) (cl_s0 hv0) (by decide) (by decide) lf_C_25 rfl (cl_v4 hv0) (cl_lt hv0 3 (by decide)) (by decide +kernel) <|
  wr_aload_n (q := 0) (by decide +kernel) rfl rfl <|
  wr_getI (ci := 0) (k0 := 3) (idx := 22) (cl_lt0 hv0) (cl_s0 hv0) (by decide) (by decide) lf_C_22 (Or.inl rfl) (by decide +kernel) <|
  wr_iload_n (q := 1) (by decide +kernel) rfl rfl <|
  wr_iast (cl_lt hv0 3 (by decide)) (cl_s3 hv0) q1 (by decide +kernel) <|
  k1 _ rfl
theorem b_C_addLaw_19 {X : aX} {d : Nat} {post : aO} {vi : Nat → Nat → Int32} {vl : Nat → Nat → Int64} {v0 : Nat} {x1 x2 x3 : Int32} (hv0 : isCl v0) (q1 : vp_in (vi v0 3) 8) (k1 : ∀ w, w = up2 vi (v0 + 4) (vi v0 3).toNatClampNeg x2 → wp X (d + 1) k_C_addLaw 0 0 29 [some (.ref v0), some (.int x1), some (.int x2), some (.int x3)] [] (mk w vl) post) : wp X (d + 1) k_C_addLaw 0 0 19 [some (.ref v0), some (.int x1), some (.int x2), some (.int x3)] [] (mk vi vl) post :=
  wr_aload_n (q := 0) (by decide +kernel) rfl rfl <|
  wr_getR2 (b := v0 + 4) (ci := 0) (k0 := 5) (idx := 28) (cl_lt0 hv0) (cl_s0 hv0) (by decide) (by decide) lf_C_28 rfl (cl_v5 hv0) (cl_lt hv0 4 (by decide)) (by decide +kernel) <|
  wr_aload_n (q := 0) (by decide +kernel) rfl rfl <|
  wr_getI (ci := 0) (k0 := 3) (idx := 22) (cl_lt0 hv0) (cl_s0 hv0) (by decide) (by decide) lf_C_22 (Or.inl rfl) (by decide +kernel) <|
  wr_iload_n (q := 2) (by decide +kernel) rfl rfl <|
  wr_iast (cl_lt hv0 4 (by decide)) (cl_s4 hv0) q1 (by decide +kernel) <|
  k1 _ rfl
theorem b_C_addLaw_29 {X : aX} {d : Nat} {post : aO} {vi : Nat → Nat → Int32} {vl : Nat → Nat → Int64} {v0 : Nat} {x1 x2 x3 : Int32} (hv0 : isCl v0) (q1 : vp_in (vi v0 3) 8) (k1 : ∀ w, w = up2 vi (v0 + 5) (vi v0 3).toNatClampNeg x3 → wp X (d + 1) k_C_addLaw 0 0 39 [some (.ref v0), some (.int x1), some (.int x2), some (.int x3)] [] (mk w vl) post) : wp X (d + 1) k_C_addLaw 0 0 29 [some (.ref v0), some (.int x1), some (.int x2), some (.int x3)] [] (mk vi vl) post :=
  wr_aload_n (q := 0) (by decide +kernel) rfl rfl <|
  wr_getR2 (b := v0 + 5) (ci := 0) (k0 := 6) (idx := 31) (cl_lt0 hv0) (cl_s0 hv0) (by decide) (by decide) lf_C_31 rfl (cl_v6 hv0) (cl_lt hv0 5 (by decide)) (by decide +kernel) <|
  wr_aload_n (q := 0) (by decide +kernel) rfl rfl <|
  wr_getI (ci := 0) (k0 := 3) (idx := 22) (cl_lt0 hv0) (cl_s0 hv0) (by decide) (by decide) lf_C_22 (Or.inl rfl) (by decide +kernel) <|
  wr_iload_n (q := 3) (by decide +kernel) rfl rfl <|
  wr_iast (cl_lt hv0 5 (by decide)) (cl_s5 hv0) q1 (by decide +kernel) <|
  k1 _ rfl
theorem b_C_addLaw_39 {X : aX} {d : Nat} {post : aO} {vi : Nat → Nat → Int32} {vl : Nat → Nat → Int64} {v0 : Nat} {x1 x2 x3 : Int32} (hv0 : isCl v0) (k1 : ∀ w, w = up2 vi v0 3 ((vi v0 3) + (1 : Int32)) → wp X (d + 1) k_C_addLaw 0 0 49 [some (.ref v0), some (.int x1), some (.int x2), some (.int x3)] [] (mk w vl) post) : wp X (d + 1) k_C_addLaw 0 0 39 [some (.ref v0), some (.int x1), some (.int x2), some (.int x3)] [] (mk vi vl) post :=
  wr_aload_n (q := 0) (by decide +kernel) rfl rfl <|
  wr_dup (by decide +kernel) rfl <|
  wr_getI (ci := 0) (k0 := 3) (idx := 22) (cl_lt0 hv0) (cl_s0 hv0) (by decide) (by decide) lf_C_22 (Or.inl rfl) (by decide +kernel) <|
  wr_iconst (n := 1) (v := (1 : Int32)) (by decide +kernel) (by decide) <|
  wr_iadd (by decide +kernel) <|
  wr_putI (ci := 0) (k0 := 3) (idx := 22) (cl_lt0 hv0) (cl_s0 hv0) (by decide) (by decide) lf_C_22 rfl (by decide +kernel) <|
  k1 _ rfl
theorem b_C_addLaw_49 {X : aX} {d : Nat} {post : aO} {vi : Nat → Nat → Int32} {vl : Nat → Nat → Int64} {v0 : Nat} {x1 x2 x3 : Int32} (k1 : post none (mk vi vl)) : wp X (d + 1) k_C_addLaw 0 0 49 [some (.ref v0), some (.int x1), some (.int x2), some (.int x3)] [] (mk vi vl) post :=
  wr_ret (r := none) (Or.inl ⟨rfl, (by decide +kernel), rfl⟩) k1
theorem b_C_take_0 {X : aX} {d : Nat} {post : aO} {vi : Nat → Nat → Int32} {vl : Nat → Nat → Int64} {v0 v1 : Nat} (hv1 : isCl v1) (hv0 : isCl v0) (k1 : ∀ w, w = up2 vi v0 0 (vi v1 0) → wp X (d + 1) k_C_take 0 0 8 [some (.ref v0), some (.ref v1)] [] (mk w vl) post) : wp X (d + 1) k_C_take 0 0 0 [some (.ref v0), some (.ref v1)] [] (mk vi vl) post :=
  wr_aload_n (q := 0) (by decide +kernel) rfl rfl <|
  wr_aload_n (q := 1) (by decide +kernel) rfl rfl <|
  wr_getI (ci := 0) (k0 := 0) (idx := 9) (cl_lt0 hv1) (cl_s0 hv1) (by decide) (by decide) lf_C_9 (Or.inl rfl) (by decide +kernel) <|
  wr_putI (ci := 0) (k0 := 0) (idx := 9) (cl_lt0 hv0) (cl_s0 hv0) (by decide) (by decide) lf_C_9 rfl (by decide +kernel) <|
  k1 _ rfl
theorem b_C_take_8 {X : aX} {d : Nat} {post : aO} {vi : Nat → Nat → Int32} {vl : Nat → Nat → Int64} {v0 v1 : Nat} (hv1 : isCl v1) (hv0 : isCl v0) (k1 : ∀ w, w = up1 vi (v0 + 1) (va_cpy (vi (v1 + 1)) (vi (v0 + 1)) 0 0 5) → wp X (d + 1) k_C_take 0 0 22 [some (.ref v0), some (.ref v1)] [] (mk w vl) post) : wp X (d + 1) k_C_take 0 0 8 [some (.ref v0), some (.ref v1)] [] (mk vi vl) post :=
  wr_aload_n (q := 1) (by decide +kernel) rfl rfl <|
  wr_getR2 (b := v1 + 1) (ci := 0) (k0 := 1) (idx := 15) (cl_lt0 hv1) (cl_s0 hv1) (by decide) (by decide) lf_C_15 rfl (cl_v1 hv1) (cl_lt hv1 1 (by decide)) (by decide +kernel) <|
  wr_iconst (n := 0) (v := (0 : Int32)) (by decide +kernel) (by decide) <|
  wr_aload_n (q := 0) (by decide +kernel) rfl rfl <|
  wr_getR2 (b := v0 + 1) (ci := 0) (k0 := 1) (idx := 15) (cl_lt0 hv0) (cl_s0 hv0) (by decide) (by decide) lf_C_15 rfl (cl_v1 hv0) (cl_lt hv0 1 (by decide)) (by decide +kernel) <|
  wr_iconst (n := 0) (v := (0 : Int32)) (by decide +kernel) (by decide) <|
  wr_iconst (n := 5) (v := (5 : Int32)) (by decide +kernel) (by decide) <|
  wr_copy (idx := 52) lx_C lx_na lx_st lx_in (Nat.le_of_ble_eq_true rfl) (cl_lt hv1 1 (by decide)) (cl_lt hv0 1 (by decide)) (cl_s1 hv1) (cl_s1 hv0) (by decide) (by decide) (by decide) (by decide) (by decide) (by decide +kernel) <|
  k1 _ rfl
theorem b_C_take_22 {X : aX} {d : Nat} {post : aO} {vi : Nat → Nat → Int32} {vl : Nat → Nat → Int64} {v0 v1 : Nat} (hv1 : isCl v1) (hv0 : isCl v0) (k1 : ∀ w, w = up1 vi (v0 + 2) (va_cpy (vi (v1 + 2)) (vi (v0 + 2)) 0 0 5) → wp X (d + 1) k_C_take 0 0 36 [some (.ref v0), some (.ref v1)] [] (mk w vl) post) : wp X (d + 1) k_C_take 0 0 22 [some (.ref v0), some (.ref v1)] [] (mk vi vl) post :=
  wr_aload_n (q := 1) (by decide +kernel) rfl rfl <|
  wr_getR2 (b := v1 + 2) (ci := 0) (k0 := 2) (idx := 19) (cl_lt0 hv1) (cl_s0 hv1) (by decide) (by decide) lf_C_19 rfl (cl_v2 hv1) (cl_lt hv1 2 (by decide)) (by decide +kernel) <|
  wr_iconst (n := 0) (v := (0 : Int32)) (by decide +kernel) (by decide) <|
  wr_aload_n (q := 0) (by decide +kernel) rfl rfl <|
  wr_getR2 (b := v0 + 2) (ci := 0) (k0 := 2) (idx := 19) (cl_lt0 hv0) (cl_s0 hv0) (by decide) (by decide) lf_C_19 rfl (cl_v2 hv0) (cl_lt hv0 2 (by decide)) (by decide +kernel) <|
  wr_iconst (n := 0) (v := (0 : Int32)) (by decide +kernel) (by decide) <|
  wr_iconst (n := 5) (v := (5 : Int32)) (by decide +kernel) (by decide) <|
  wr_copy (idx := 52) lx_C lx_na lx_st lx_in (Nat.le_of_ble_eq_true rfl) (cl_lt hv1 2 (by decide)) (cl_lt hv0 2 (by decide)) (cl_s2 hv1) (cl_s2 hv0) (by decide) (by decide) (by decide) (by decide) (by decide) (by decide +kernel) <|
  k1 _ rfl
theorem b_C_take_36 {X : aX} {d : Nat} {post : aO} {vi : Nat → Nat → Int32} {vl : Nat → Nat → Int64} {v0 v1 : Nat} (hv1 : isCl v1) (hv0 : isCl v0) (k1 : ∀ w, w = up2 vi v0 3 (vi v1 3) → wp X (d + 1) k_C_take 0 0 44 [some (.ref v0), some (.ref v1)] [] (mk w vl) post) : wp X (d + 1) k_C_take 0 0 36 [some (.ref v0), some (.ref v1)] [] (mk vi vl) post :=
  wr_aload_n (q := 0) (by decide +kernel) rfl rfl <|
  wr_aload_n (q := 1) (by decide +kernel) rfl rfl <|
  wr_getI (ci := 0) (k0 := 3) (idx := 22) (cl_lt0 hv1) (cl_s0 hv1) (by decide) (by decide) lf_C_22 (Or.inl rfl) (by decide +kernel) <|
  wr_putI (ci := 0) (k0 := 3) (idx := 22) (cl_lt0 hv0) (cl_s0 hv0) (by decide) (by decide) lf_C_22 rfl (by decide +kernel) <|
  k1 _ rfl
theorem b_C_take_44 {X : aX} {d : Nat} {post : aO} {vi : Nat → Nat → Int32} {vl : Nat → Nat → Int64} {v0 v1 : Nat} (hv1 : isCl v1) (hv0 : isCl v0) (k1 : ∀ w, w = up1 vi (v0 + 3) (va_cpy (vi (v1 + 3)) (vi (v0 + 3)) 0 0 8) → wp X (d + 1) k_C_take 0 0 59 [some (.ref v0), some (.ref v1)] [] (mk w vl) post) : wp X (d + 1) k_C_take 0 0 44 [some (.ref v0), some (.ref v1)] [] (mk vi vl) post :=
  wr_aload_n (q := 1) (by decide +kernel) rfl rfl <|
  wr_getR2 (b := v1 + 3) (ci := 0) (k0 := 4) (idx := 25) (cl_lt0 hv1) (cl_s0 hv1) (by decide) (by decide) lf_C_25 rfl (cl_v4 hv1) (cl_lt hv1 3 (by decide)) (by decide +kernel) <|
  wr_iconst (n := 0) (v := (0 : Int32)) (by decide +kernel) (by decide) <|
  wr_aload_n (q := 0) (by decide +kernel) rfl rfl <|
  wr_getR2 (b := v0 + 3) (ci := 0) (k0 := 4) (idx := 25) (cl_lt0 hv0) (cl_s0 hv0) (by decide) (by decide) lf_C_25 rfl (cl_v4 hv0) (cl_lt hv0 3 (by decide)) (by decide +kernel) <|
  wr_iconst (n := 0) (v := (0 : Int32)) (by decide +kernel) (by decide) <|
  wr_bipush (n := 8) (v := (8 : Int32)) (by decide +kernel) (by decide) <|
  wr_copy (idx := 52) lx_C lx_na lx_st lx_in (Nat.le_of_ble_eq_true rfl) (cl_lt hv1 3 (by decide)) (cl_lt hv0 3 (by decide)) (cl_s3 hv1) (cl_s3 hv0) (by decide) (by decide) (by decide) (by decide) (by decide) (by decide +kernel) <|
  k1 _ rfl
theorem b_C_take_59 {X : aX} {d : Nat} {post : aO} {vi : Nat → Nat → Int32} {vl : Nat → Nat → Int64} {v0 v1 : Nat} (hv1 : isCl v1) (hv0 : isCl v0) (k1 : ∀ w, w = up1 vi (v0 + 4) (va_cpy (vi (v1 + 4)) (vi (v0 + 4)) 0 0 8) → wp X (d + 1) k_C_take 0 0 74 [some (.ref v0), some (.ref v1)] [] (mk w vl) post) : wp X (d + 1) k_C_take 0 0 59 [some (.ref v0), some (.ref v1)] [] (mk vi vl) post :=
  wr_aload_n (q := 1) (by decide +kernel) rfl rfl <|
  wr_getR2 (b := v1 + 4) (ci := 0) (k0 := 5) (idx := 28) (cl_lt0 hv1) (cl_s0 hv1) (by decide) (by decide) lf_C_28 rfl (cl_v5 hv1) (cl_lt hv1 4 (by decide)) (by decide +kernel) <|
  wr_iconst (n := 0) (v := (0 : Int32)) (by decide +kernel) (by decide) <|
  wr_aload_n (q := 0) (by decide +kernel) rfl rfl <|
  wr_getR2 (b := v0 + 4) (ci := 0) (k0 := 5) (idx := 28) (cl_lt0 hv0) (cl_s0 hv0) (by decide) (by decide) lf_C_28 rfl (cl_v5 hv0) (cl_lt hv0 4 (by decide)) (by decide +kernel) <|
  wr_iconst (n := 0) (v := (0 : Int32)) (by decide +kernel) (by decide) <|
  wr_bipush (n := 8) (v := (8 : Int32)) (by decide +kernel) (by decide) <|
  wr_copy (idx := 52) lx_C lx_na lx_st lx_in (Nat.le_of_ble_eq_true rfl) (cl_lt hv1 4 (by decide)) (cl_lt hv0 4 (by decide)) (cl_s4 hv1) (cl_s4 hv0) (by decide) (by decide) (by decide) (by decide) (by decide) (by decide +kernel) <|
  k1 _ rfl
theorem b_C_take_74 {X : aX} {d : Nat} {post : aO} {vi : Nat → Nat → Int32} {vl : Nat → Nat → Int64} {v0 v1 : Nat} (hv1 : isCl v1) (hv0 : isCl v0) (k1 : ∀ w, w = up1 vi (v0 + 5) (va_cpy (vi (v1 + 5)) (vi (v0 + 5)) 0 0 8) → wp X (d + 1) k_C_take 0 0 89 [some (.ref v0), some (.ref v1)] [] (mk w vl) post) : wp X (d + 1) k_C_take 0 0 74 [some (.ref v0), some (.ref v1)] [] (mk vi vl) post :=
  wr_aload_n (q := 1) (by decide +kernel) rfl rfl <|
  wr_getR2 (b := v1 + 5) (ci := 0) (k0 := 6) (idx := 31) (cl_lt0 hv1) (cl_s0 hv1) (by decide) (by decide) lf_C_31 rfl (cl_v6 hv1) (cl_lt hv1 5 (by decide)) (by decide +kernel) <|
  wr_iconst (n := 0) (v := (0 : Int32)) (by decide +kernel) (by decide) <|
  wr_aload_n (q := 0) (by decide +kernel) rfl rfl <|
  wr_getR2 (b := v0 + 5) (ci := 0) (k0 := 6) (idx := 31) (cl_lt0 hv0) (cl_s0 hv0) (by decide) (by decide) lf_C_31 rfl (cl_v6 hv0) (cl_lt hv0 5 (by decide)) (by decide +kernel) <|
  wr_iconst (n := 0) (v := (0 : Int32)) (by decide +kernel) (by decide) <|
  wr_bipush (n := 8) (v := (8 : Int32)) (by decide +kernel) (by decide) <|
  wr_copy (idx := 52) lx_C lx_na lx_st lx_in (Nat.le_of_ble_eq_true rfl) (cl_lt hv1 5 (by decide)) (cl_lt hv0 5 (by decide)) (cl_s5 hv1) (cl_s5 hv0) (by decide) (by decide) (by decide) (by decide) (by decide) (by decide +kernel) <|
  k1 _ rfl
theorem b_C_take_89 {X : aX} {d : Nat} {post : aO} {vi : Nat → Nat → Int32} {vl : Nat → Nat → Int64} {v0 v1 : Nat} (hv1 : isCl v1) (hv0 : isCl v0) (k1 : ∀ w, w = up2 vi v0 7 (vi v1 7) → wp X (d + 1) k_C_take 0 0 97 [some (.ref v0), some (.ref v1)] [] (mk w vl) post) : wp X (d + 1) k_C_take 0 0 89 [some (.ref v0), some (.ref v1)] [] (mk vi vl) post :=
  wr_aload_n (q := 0) (by decide +kernel) rfl rfl <|
  wr_aload_n (q := 1) (by decide +kernel) rfl rfl <|
  wr_getI (ci := 0) (k0 := 7) (idx := 34) (cl_lt0 hv1) (cl_s0 hv1) (by decide) (by decide) lf_C_34 (Or.inl rfl) (by decide +kernel) <|
  wr_putI (ci := 0) (k0 := 7) (idx := 34) (cl_lt0 hv0) (cl_s0 hv0) (by decide) (by decide) lf_C_34 rfl (by decide +kernel) <|
  k1 _ rfl
theorem b_C_take_97 {X : aX} {d : Nat} {post : aO} {vi : Nat → Nat → Int32} {vl : Nat → Nat → Int64} {v0 v1 : Nat} (hv1 : isCl v1) (hv0 : isCl v0) (k1 : ∀ w, w = up1 vi (v0 + 6) (va_cpy (vi (v1 + 6)) (vi (v0 + 6)) 0 0 40) → wp X (d + 1) k_C_take 0 0 112 [some (.ref v0), some (.ref v1)] [] (mk w vl) post) : wp X (d + 1) k_C_take 0 0 97 [some (.ref v0), some (.ref v1)] [] (mk vi vl) post :=
  wr_aload_n (q := 1) (by decide +kernel) rfl rfl <|
  wr_getR2 (b := v1 + 6) (ci := 0) (k0 := 8) (idx := 37) (cl_lt0 hv1) (cl_s0 hv1) (by decide) (by decide) lf_C_37 rfl (cl_v8 hv1) (cl_lt hv1 6 (by decide)) (by decide +kernel) <|
  wr_iconst (n := 0) (v := (0 : Int32)) (by decide +kernel) (by decide) <|
  wr_aload_n (q := 0) (by decide +kernel) rfl rfl <|
  wr_getR2 (b := v0 + 6) (ci := 0) (k0 := 8) (idx := 37) (cl_lt0 hv0) (cl_s0 hv0) (by decide) (by decide) lf_C_37 rfl (cl_v8 hv0) (cl_lt hv0 6 (by decide)) (by decide +kernel) <|
  wr_iconst (n := 0) (v := (0 : Int32)) (by decide +kernel) (by decide) <|
  wr_bipush (n := 40) (v := (40 : Int32)) (by decide +kernel) (by decide) <|
  wr_copy (idx := 52) lx_C lx_na lx_st lx_in (Nat.le_of_ble_eq_true rfl) (cl_lt hv1 6 (by decide)) (cl_lt hv0 6 (by decide)) (cl_s6 hv1) (cl_s6 hv0) (by decide) (by decide) (by decide) (by decide) (by decide) (by decide +kernel) <|
  k1 _ rfl
theorem b_C_take_112 {X : aX} {d : Nat} {post : aO} {vi : Nat → Nat → Int32} {vl : Nat → Nat → Int64} {v0 v1 : Nat} (hv1 : isCl v1) (hv0 : isCl v0) (k1 : ∀ w, w = up1 vi (v0 + 7) (va_cpy (vi (v1 + 7)) (vi (v0 + 7)) 0 0 40) → wp X (d + 1) k_C_take 0 0 127 [some (.ref v0), some (.ref v1)] [] (mk w vl) post) : wp X (d + 1) k_C_take 0 0 112 [some (.ref v0), some (.ref v1)] [] (mk vi vl) post :=
  wr_aload_n (q := 1) (by decide +kernel) rfl rfl <|
  wr_getR2 (b := v1 + 7) (ci := 0) (k0 := 9) (idx := 40) (cl_lt0 hv1) (cl_s0 hv1) (by decide) (by decide) lf_C_40 rfl (cl_v9 hv1) (cl_lt hv1 7 (by decide)) (by decide +kernel) <|
  wr_iconst (n := 0) (v := (0 : Int32)) (by decide +kernel) (by decide) <|
  wr_aload_n (q := 0) (by decide +kernel) rfl rfl <|
  wr_getR2 (b := v0 + 7) (ci := 0) (k0 := 9) (idx := 40) (cl_lt0 hv0) (cl_s0 hv0) (by decide) (by decide) lf_C_40 rfl (cl_v9 hv0) (cl_lt hv0 7 (by decide)) (by decide +kernel) <|
  wr_iconst (n := 0) (v := (0 : Int32)) (by decide +kernel) (by decide) <|
  wr_bipush (n := 40) (v := (40 : Int32)) (by decide +kernel) (by decide) <|
  wr_copy (idx := 52) lx_C lx_na lx_st lx_in (Nat.le_of_ble_eq_true rfl) (cl_lt hv1 7 (by decide)) (cl_lt hv0 7 (by decide)) (cl_s7 hv1) (cl_s7 hv0) (by decide) (by decide) (by decide) (by decide) (by decide) (by decide +kernel) <|
  k1 _ rfl
theorem b_C_take_127 {X : aX} {d : Nat} {post : aO} {vi : Nat → Nat → Int32} {vl : Nat → Nat → Int64} {v0 v1 : Nat} (hv1 : isCl v1) (hv0 : isCl v0) (k1 : ∀ w, w = up1 vi (v0 + 8) (va_cpy (vi (v1 + 8)) (vi (v0 + 8)) 0 0 40) → wp X (d + 1) k_C_take 0 0 142 [some (.ref v0), some (.ref v1)] [] (mk w vl) post) : wp X (d + 1) k_C_take 0 0 127 [some (.ref v0), some (.ref v1)] [] (mk vi vl) post :=
  wr_aload_n (q := 1) (by decide +kernel) rfl rfl <|
  wr_getR2 (b := v1 + 8) (ci := 0) (k0 := 10) (idx := 43) (cl_lt0 hv1) (cl_s0 hv1) (by decide) (by decide) lf_C_43 rfl (cl_v10 hv1) (cl_lt hv1 8 (by decide)) (by decide +kernel) <|
  wr_iconst (n := 0) (v := (0 : Int32)) (by decide +kernel) (by decide) <|
  wr_aload_n (q := 0) (by decide +kernel) rfl rfl <|
  wr_getR2 (b := v0 + 8) (ci := 0) (k0 := 10) (idx := 43) (cl_lt0 hv0) (cl_s0 hv0) (by decide) (by decide) lf_C_43 rfl (cl_v10 hv0) (cl_lt hv0 8 (by decide)) (by decide +kernel) <|
  wr_iconst (n := 0) (v := (0 : Int32)) (by decide +kernel) (by decide) <|
  wr_bipush (n := 40) (v := (40 : Int32)) (by decide +kernel) (by decide) <|
  wr_copy (idx := 52) lx_C lx_na lx_st lx_in (Nat.le_of_ble_eq_true rfl) (cl_lt hv1 8 (by decide)) (cl_lt hv0 8 (by decide)) (cl_s8 hv1) (cl_s8 hv0) (by decide) (by decide) (by decide) (by decide) (by decide) (by decide +kernel) <|
  k1 _ rfl
theorem b_C_take_142 {X : aX} {d : Nat} {post : aO} {vi : Nat → Nat → Int32} {vl : Nat → Nat → Int64} {v0 v1 : Nat} (k1 : post none (mk vi vl)) : wp X (d + 1) k_C_take 0 0 142 [some (.ref v0), some (.ref v1)] [] (mk vi vl) post :=
  wr_ret (r := none) (Or.inl ⟨rfl, (by decide +kernel), rfl⟩) k1
theorem b_C_settleFrom_0 {X : aX} {d : Nat} {post : aO} {vi : Nat → Nat → Int32} {vl : Nat → Nat → Int64} {v0 : Nat} {x1 : Int32} (k1 : wp X (d + 1) k_C_settleFrom 0 0 2 [some (.ref v0), some (.int x1), some (.int x1)] [] (mk vi vl) post) : wp X (d + 1) k_C_settleFrom 0 0 0 [some (.ref v0), some (.int x1), none] [] (mk vi vl) post :=
  wr_iload_n (q := 1) (by decide +kernel) rfl rfl <|
  wr_istore_n (q := 2) (by decide +kernel) rfl (by decide) <|
  k1
theorem b_C_settleFrom_2 {X : aX} {d : Nat} {post : aO} {vi : Nat → Nat → Int32} {vl : Nat → Nat → Int64} {v0 : Nat} {x1 x2 : Int32} (hv0 : isCl v0) (k1 : (vi v0 0) ≤ x2 → wp X (d + 1) k_C_settleFrom 0 0 21 [some (.ref v0), some (.int x1), some (.int x2)] [] (mk vi vl) post) (k2 : ¬ (vi v0 0) ≤ x2 → wp X (d + 1) k_C_settleFrom 0 0 10 [some (.ref v0), some (.int x1), some (.int x2)] [] (mk vi vl) post) : wp X (d + 1) k_C_settleFrom 0 0 2 [some (.ref v0), some (.int x1), some (.int x2)] [] (mk vi vl) post :=
  wr_iload_n (q := 2) (by decide +kernel) rfl rfl <|
  wr_aload_n (q := 0) (by decide +kernel) rfl rfl <|
  wr_getI (ci := 0) (k0 := 0) (idx := 9) (cl_lt0 hv0) (cl_s0 hv0) (by decide) (by decide) lf_C_9 (Or.inl rfl) (by decide +kernel) <|
  wr_icmp_ge (off := 14) (t := 21) (by decide +kernel) (by decide) k1 k2
theorem b_C_settleFrom_10 {X : aX} {d : Nat} {post : aO} {vi : Nat → Nat → Int32} {vl : Nat → Nat → Int64} {v0 : Nat} {x1 x2 : Int32} (k1 : CallOk X d 0 0 k_C_settle [.ref v0, .int x2] (mk vi vl) (fun r N' => wp X (d + 1) k_C_settleFrom 0 0 15 [some (.ref v0), some (.int x1), some (.int x2)] (pR r []) N' post)) (hv0 : isCl v0) : wp X (d + 1) k_C_settleFrom 0 0 10 [some (.ref v0), some (.int x1), some (.int x2)] [] (mk vi vl) post :=
  wr_aload_n (q := 0) (by decide +kernel) rfl rfl <|
  wr_iload_n (q := 2) (by decide +kernel) rfl rfl <|
  wr_invV (a := v0) (ci := 0) (mid2 := 40) (idx := 74) (b1 := 0) (b2 := 0) (c1 := 0) (c2 := 0) (as := [.int x2]) (st := []) pl_40 rfl (Nat.le_of_ble_eq_true rfl) rfl rfl (cl_lt0 hv0) (cl_s0 hv0) (by decide) rfl lm_C_74 im_40 is_40 (by decide +kernel) k1
theorem b_C_settleFrom_15 {X : aX} {d : Nat} {post : aO} {vi : Nat → Nat → Int32} {vl : Nat → Nat → Int64} {v0 : Nat} {x1 x2 : Int32} (k1 : wp X (d + 1) k_C_settleFrom 0 0 2 [some (.ref v0), some (.int x1), some (.int (x2 + (1 : Int32)))] [] (mk vi vl) post) : wp X (d + 1) k_C_settleFrom 0 0 15 [some (.ref v0), some (.int x1), some (.int x2)] [] (mk vi vl) post :=
  wr_iinc (i := 2) (n := 1) (v := (1 : Int32)) (by decide +kernel) rfl (by decide) (by decide) <|
  wr_goto (off := -16) (t := 2) (by decide +kernel) (by decide) k1
theorem b_C_settleFrom_21 {X : aX} {d : Nat} {post : aO} {vi : Nat → Nat → Int32} {vl : Nat → Nat → Int64} {v0 : Nat} {x1 x2 : Int32} (k1 : post none (mk vi vl)) : wp X (d + 1) k_C_settleFrom 0 0 21 [some (.ref v0), some (.int x1), some (.int x2)] [] (mk vi vl) post :=
  wr_ret (r := none) (Or.inl ⟨rfl, (by decide +kernel), rfl⟩) k1
theorem b_C_settle_0 {X : aX} {d : Nat} {post : aO} {vi : Nat → Nat → Int32} {vl : Nat → Nat → Int64} {v0 : Nat} {x1 : Int32} (hv0 : isCl v0) (q1 : vp_in x1 5) (k1 : ¬ (vi (v0 + 1) x1.toNatClampNeg) = (1 : Int32) → wp X (d + 1) k_C_settle 0 0 31 [some (.ref v0), some (.int x1), none] [] (mk vi vl) post) (k2 : (vi (v0 + 1) x1.toNatClampNeg) = (1 : Int32) → wp X (d + 1) k_C_settle 0 0 10 [some (.ref v0), some (.int x1), none] [] (mk vi vl) post) : wp X (d + 1) k_C_settle 0 0 0 [some (.ref v0), some (.int x1), none] [] (mk vi vl) post :=
  wr_aload_n (q := 0) (by decide +kernel) rfl rfl <|
  wr_getR2 (b := v0 + 1) (ci := 0) (k0 := 1) (idx := 15) (cl_lt0 hv0) (cl_s0 hv0) (by decide) (by decide) lf_C_15 rfl (cl_v1 hv0) (cl_lt hv0 1 (by decide)) (by decide +kernel) <|
  wr_iload_n (q := 1) (by decide +kernel) rfl rfl <|
  wr_iald (cl_lt hv0 1 (by decide)) (cl_s1 hv0) q1 (by decide +kernel) <|
  wr_iconst (n := 1) (v := (1 : Int32)) (by decide +kernel) (by decide) <|
  wr_icmp_ne (off := 24) (t := 31) (by decide +kernel) (by decide) k1 k2
theorem b_C_settle_10 {X : aX} {d : Nat} {post : aO} {vi : Nat → Nat → Int32} {vl : Nat → Nat → Int64} {v0 : Nat} {x1 : Int32} {o2 : Option Value} (hv0 : isCl v0) (q1 : vp_in x1 5) (k1 : ∀ w, w = up2 vi (v0 + 10) x1.toNatClampNeg (-9 : Int32) → wp X (d + 1) k_C_settle 0 0 18 [some (.ref v0), some (.int x1), o2] [] (mk w vl) post) : wp X (d + 1) k_C_settle 0 0 10 [some (.ref v0), some (.int x1), o2] [] (mk vi vl) post :=
  wr_aload_n (q := 0) (by decide +kernel) rfl rfl <|
  wr_getR2 (b := v0 + 10) (ci := 0) (k0 := 12) (idx := 49) (cl_lt0 hv0) (cl_s0 hv0) (by decide) (by decide) lf_C_49 rfl (cl_v12 hv0) (cl_lt hv0 10 (by decide)) (by decide +kernel) <|
  wr_iload_n (q := 1) (by decide +kernel) rfl rfl <|
  wr_bipush (n := -9) (v := (-9 : Int32)) (by decide +kernel) (by decide) <|
  wr_iast (cl_lt hv0 10 (by decide)) (cl_s10 hv0) q1 (by decide +kernel) <|
  k1 _ rfl
theorem b_C_settle_18 {X : aX} {d : Nat} {post : aO} {vi : Nat → Nat → Int32} {vl : Nat → Nat → Int64} {v0 : Nat} {x1 : Int32} {o2 : Option Value} (hv0 : isCl v0) (q1 : vp_in x1 5) (q2 : vp_in x1 5) (k1 : ∀ w, w = up2 vi (v0 + 9) x1.toNatClampNeg (vi (v0 + 2) x1.toNatClampNeg) → wp X (d + 1) k_C_settle 0 0 30 [some (.ref v0), some (.int x1), o2] [] (mk w vl) post) : wp X (d + 1) k_C_settle 0 0 18 [some (.ref v0), some (.int x1), o2] [] (mk vi vl) post :=
  wr_aload_n (q := 0) (by decide +kernel) rfl rfl <|
  wr_getR2 (b := v0 + 9) (ci := 0) (k0 := 11) (idx := 46) (cl_lt0 hv0) (cl_s0 hv0) (by decide) (by decide) lf_C_46 rfl (cl_v11 hv0) (cl_lt hv0 9 (by decide)) (by decide +kernel) <|
  wr_iload_n (q := 1) (by decide +kernel) rfl rfl <|
  wr_aload_n (q := 0) (by decide +kernel) rfl rfl <|
  wr_getR2 (b := v0 + 2) (ci := 0) (k0 := 2) (idx := 19) (cl_lt0 hv0) (cl_s0 hv0) (by decide) (by decide) lf_C_19 rfl (cl_v2 hv0) (cl_lt hv0 2 (by decide)) (by decide +kernel) <|
  wr_iload_n (q := 1) (by decide +kernel) rfl rfl <|
  wr_iald (cl_lt hv0 2 (by decide)) (cl_s2 hv0) q1 (by decide +kernel) <|
  wr_iast (cl_lt hv0 9 (by decide)) (cl_s9 hv0) q2 (by decide +kernel) <|
  k1 _ rfl
theorem b_C_settle_30 {X : aX} {d : Nat} {post : aO} {vi : Nat → Nat → Int32} {vl : Nat → Nat → Int64} {v0 : Nat} {x1 : Int32} {o2 : Option Value} (k1 : post none (mk vi vl)) : wp X (d + 1) k_C_settle 0 0 30 [some (.ref v0), some (.int x1), o2] [] (mk vi vl) post :=
  wr_ret (r := none) (Or.inl ⟨rfl, (by decide +kernel), rfl⟩) k1
theorem b_C_settle_31 {X : aX} {d : Nat} {post : aO} {vi : Nat → Nat → Int32} {vl : Nat → Nat → Int64} {v0 : Nat} {x1 : Int32} {o2 : Option Value} (hv0 : isCl v0) (q1 : vp_in x1 5) (k1 : ¬ (vi (v0 + 1) x1.toNatClampNeg) = (2 : Int32) → wp X (d + 1) k_C_settle 0 0 54 [some (.ref v0), some (.int x1), o2] [] (mk vi vl) post) (k2 : (vi (v0 + 1) x1.toNatClampNeg) = (2 : Int32) → wp X (d + 1) k_C_settle 0 0 41 [some (.ref v0), some (.int x1), o2] [] (mk vi vl) post) : wp X (d + 1) k_C_settle 0 0 31 [some (.ref v0), some (.int x1), o2] [] (mk vi vl) post :=
  wr_aload_n (q := 0) (by decide +kernel) rfl rfl <|
  wr_getR2 (b := v0 + 1) (ci := 0) (k0 := 1) (idx := 15) (cl_lt0 hv0) (cl_s0 hv0) (by decide) (by decide) lf_C_15 rfl (cl_v1 hv0) (cl_lt hv0 1 (by decide)) (by decide +kernel) <|
  wr_iload_n (q := 1) (by decide +kernel) rfl rfl <|
  wr_iald (cl_lt hv0 1 (by decide)) (cl_s1 hv0) q1 (by decide +kernel) <|
  wr_iconst (n := 2) (v := (2 : Int32)) (by decide +kernel) (by decide) <|
  wr_icmp_ne (off := 16) (t := 54) (by decide +kernel) (by decide) k1 k2
theorem b_C_settle_41 {X : aX} {d : Nat} {post : aO} {vi : Nat → Nat → Int32} {vl : Nat → Nat → Int64} {v0 : Nat} {x1 : Int32} {o2 : Option Value} (hv0 : isCl v0) (q1 : vp_in x1 5) (k1 : CallOk X d 0 0 k_C_gapFor [.ref v0, .int (vi (v0 + 2) x1.toNatClampNeg)] (mk vi vl) (fun r N' => wp X (d + 1) k_C_settle 0 0 51 [some (.ref v0), some (.int x1), o2] (pR r []) N' post)) : wp X (d + 1) k_C_settle 0 0 41 [some (.ref v0), some (.int x1), o2] [] (mk vi vl) post :=
  wr_aload_n (q := 0) (by decide +kernel) rfl rfl <|
  wr_aload_n (q := 0) (by decide +kernel) rfl rfl <|
  wr_getR2 (b := v0 + 2) (ci := 0) (k0 := 2) (idx := 19) (cl_lt0 hv0) (cl_s0 hv0) (by decide) (by decide) lf_C_19 rfl (cl_v2 hv0) (cl_lt hv0 2 (by decide)) (by decide +kernel) <|
  wr_iload_n (q := 1) (by decide +kernel) rfl rfl <|
  wr_iald (cl_lt hv0 2 (by decide)) (cl_s2 hv0) q1 (by decide +kernel) <|
  wr_invV (a := v0) (ci := 0) (mid2 := 41) (idx := 77) (b1 := 0) (b2 := 0) (c1 := 0) (c2 := 0) (as := [.int (vi (v0 + 2) x1.toNatClampNeg)]) (st := []) pl_41 rfl (Nat.le_of_ble_eq_true rfl) rfl rfl (cl_lt0 hv0) (cl_s0 hv0) (by decide) rfl lm_C_77 im_41 is_41 (by decide +kernel) k1
theorem b_C_settle_51 {X : aX} {d : Nat} {post : aO} {vi : Nat → Nat → Int32} {vl : Nat → Nat → Int64} {v0 : Nat} {x1 y0 : Int32} {o2 : Option Value} (k1 : wp X (d + 1) k_C_settle 0 0 59 [some (.ref v0), some (.int x1), o2] [.int y0] (mk vi vl) post) : wp X (d + 1) k_C_settle 0 0 51 [some (.ref v0), some (.int x1), o2] [.int y0] (mk vi vl) post :=
  wr_goto (off := 8) (t := 59) (by decide +kernel) (by decide) k1
theorem b_C_settle_54 {X : aX} {d : Nat} {post : aO} {vi : Nat → Nat → Int32} {vl : Nat → Nat → Int64} {v0 : Nat} {x1 : Int32} {o2 : Option Value} (k1 : CallOk X d 0 0 k_C_lawHoldingIn [.ref v0, .int x1] (mk vi vl) (fun r N' => wp X (d + 1) k_C_settle 0 0 59 [some (.ref v0), some (.int x1), o2] (pR r []) N' post)) (hv0 : isCl v0) : wp X (d + 1) k_C_settle 0 0 54 [some (.ref v0), some (.int x1), o2] [] (mk vi vl) post :=
  wr_aload_n (q := 0) (by decide +kernel) rfl rfl <|
  wr_iload_n (q := 1) (by decide +kernel) rfl rfl <|
  wr_invV (a := v0) (ci := 0) (mid2 := 42) (idx := 81) (b1 := 0) (b2 := 0) (c1 := 0) (c2 := 0) (as := [.int x1]) (st := []) pl_42 rfl (Nat.le_of_ble_eq_true rfl) rfl rfl (cl_lt0 hv0) (cl_s0 hv0) (by decide) rfl lm_C_81 im_42 is_42 (by decide +kernel) k1
theorem b_C_settle_59 {X : aX} {d : Nat} {post : aO} {vi : Nat → Nat → Int32} {vl : Nat → Nat → Int64} {v0 : Nat} {x1 y0 : Int32} {o2 : Option Value} (hv0 : isCl v0) (q1 : vp_in x1 5) (k1 : ∀ w, w = up2 vi (v0 + 10) x1.toNatClampNeg y0 → wp X (d + 1) k_C_settle 0 0 67 [some (.ref v0), some (.int x1), some (.int y0)] [] (mk w vl) post) : wp X (d + 1) k_C_settle 0 0 59 [some (.ref v0), some (.int x1), o2] [.int y0] (mk vi vl) post :=
  wr_istore_n (q := 2) (by decide +kernel) rfl (by decide) <|
  wr_aload_n (q := 0) (by decide +kernel) rfl rfl <|
  wr_getR2 (b := v0 + 10) (ci := 0) (k0 := 12) (idx := 49) (cl_lt0 hv0) (cl_s0 hv0) (by decide) (by decide) lf_C_49 rfl (cl_v12 hv0) (cl_lt hv0 10 (by decide)) (by decide +kernel) <|
  wr_iload_n (q := 1) (by decide +kernel) rfl rfl <|
  wr_iload_n (q := 2) (by decide +kernel) rfl rfl <|
  wr_iast (cl_lt hv0 10 (by decide)) (cl_s10 hv0) q1 (by decide +kernel) <|
  k1 _ rfl
theorem b_C_settle_67 {X : aX} {d : Nat} {post : aO} {vi : Nat → Nat → Int32} {vl : Nat → Nat → Int64} {v0 : Nat} {x1 x2 : Int32} (hv0 : isCl v0) (k1 : ¬ x2 = (-9 : Int32) → wp X (d + 1) k_C_settle 0 0 83 [some (.ref v0), some (.int x1), some (.int x2)] [.int x1, .ref (v0 + 9)] (mk vi vl) post) (k2 : x2 = (-9 : Int32) → wp X (d + 1) k_C_settle 0 0 78 [some (.ref v0), some (.int x1), some (.int x2)] [.int x1, .ref (v0 + 9)] (mk vi vl) post) : wp X (d + 1) k_C_settle 0 0 67 [some (.ref v0), some (.int x1), some (.int x2)] [] (mk vi vl) post :=
  wr_aload_n (q := 0) (by decide +kernel) rfl rfl <|
  wr_getR2 (b := v0 + 9) (ci := 0) (k0 := 11) (idx := 46) (cl_lt0 hv0) (cl_s0 hv0) (by decide) (by decide) lf_C_46 rfl (cl_v11 hv0) (cl_lt hv0 9 (by decide)) (by decide +kernel) <|
  wr_iload_n (q := 1) (by decide +kernel) rfl rfl <|
  wr_iload_n (q := 2) (by decide +kernel) rfl rfl <|
  wr_bipush (n := -9) (v := (-9 : Int32)) (by decide +kernel) (by decide) <|
  wr_icmp_ne (off := 8) (t := 83) (by decide +kernel) (by decide) k1 k2
theorem b_C_settle_78 {X : aX} {d : Nat} {post : aO} {vi : Nat → Nat → Int32} {vl : Nat → Nat → Int64} {v0 : Nat} {x1 x2 y1 : Int32} (k1 : wp X (d + 1) k_C_settle 0 0 89 [some (.ref v0), some (.int x1), some (.int x2)] [.int (-9 : Int32), .int y1, .ref (v0 + 9)] (mk vi vl) post) : wp X (d + 1) k_C_settle 0 0 78 [some (.ref v0), some (.int x1), some (.int x2)] [.int y1, .ref (v0 + 9)] (mk vi vl) post :=
  wr_bipush (n := -9) (v := (-9 : Int32)) (by decide +kernel) (by decide) <|
  wr_goto (off := 9) (t := 89) (by decide +kernel) (by decide) k1
theorem b_C_settle_83 {X : aX} {d : Nat} {post : aO} {vi : Nat → Nat → Int32} {vl : Nat → Nat → Int64} {v0 : Nat} {x1 x2 y1 : Int32} (hv0 : isCl v0) (q1 : vp_in x2 8) (k1 : wp X (d + 1) k_C_settle 0 0 89 [some (.ref v0), some (.int x1), some (.int x2)] [.int (vi (v0 + 5) x2.toNatClampNeg), .int y1, .ref (v0 + 9)] (mk vi vl) post) : wp X (d + 1) k_C_settle 0 0 83 [some (.ref v0), some (.int x1), some (.int x2)] [.int y1, .ref (v0 + 9)] (mk vi vl) post :=
  wr_aload_n (q := 0) (by decide +kernel) rfl rfl <|
  wr_getR2 (b := v0 + 5) (ci := 0) (k0 := 6) (idx := 31) (cl_lt0 hv0) (cl_s0 hv0) (by decide) (by decide) lf_C_31 rfl (cl_v6 hv0) (cl_lt hv0 5 (by decide)) (by decide +kernel) <|
  wr_iload_n (q := 2) (by decide +kernel) rfl rfl <|
  wr_iald (cl_lt hv0 5 (by decide)) (cl_s5 hv0) q1 (by decide +kernel) <|
  k1
theorem b_C_settle_89 {X : aX} {d : Nat} {post : aO} {vi : Nat → Nat → Int32} {vl : Nat → Nat → Int64} {v0 : Nat} {x1 x2 y1 y2 : Int32} (hv0 : isCl v0) (q1 : vp_in y1 5) (k1 : ∀ w, w = up2 vi (v0 + 9) y1.toNatClampNeg y2 → wp X (d + 1) k_C_settle 0 0 90 [some (.ref v0), some (.int x1), some (.int x2)] [] (mk w vl) post) : wp X (d + 1) k_C_settle 0 0 89 [some (.ref v0), some (.int x1), some (.int x2)] [.int y2, .int y1, .ref (v0 + 9)] (mk vi vl) post :=
  wr_iast (cl_lt hv0 9 (by decide)) (cl_s9 hv0) q1 (by decide +kernel) <|
  k1 _ rfl
theorem b_C_settle_90 {X : aX} {d : Nat} {post : aO} {vi : Nat → Nat → Int32} {vl : Nat → Nat → Int64} {v0 : Nat} {x1 x2 : Int32} (k1 : post none (mk vi vl)) : wp X (d + 1) k_C_settle 0 0 90 [some (.ref v0), some (.int x1), some (.int x2)] [] (mk vi vl) post :=
  wr_ret (r := none) (Or.inl ⟨rfl, (by decide +kernel), rfl⟩) k1
theorem b_C_gapFor_0 {X : aX} {d : Nat} {post : aO} {vi : Nat → Nat → Int32} {vl : Nat → Nat → Int64} {v0 : Nat} {x1 : Int32} (k1 : wp X (d + 1) k_C_gapFor 0 0 2 [some (.ref v0), some (.int x1), some (.int (0 : Int32))] [] (mk vi vl) post) : wp X (d + 1) k_C_gapFor 0 0 0 [some (.ref v0), some (.int x1), none] [] (mk vi vl) post :=
  wr_iconst (n := 0) (v := (0 : Int32)) (by decide +kernel) (by decide) <|
  wr_istore_n (q := 2) (by decide +kernel) rfl (by decide) <|
  k1
theorem b_C_gapFor_2 {X : aX} {d : Nat} {post : aO} {vi : Nat → Nat → Int32} {vl : Nat → Nat → Int64} {v0 : Nat} {x1 x2 : Int32} (hv0 : isCl v0) (k1 : (vi v0 3) ≤ x2 → wp X (d + 1) k_C_gapFor 0 0 38 [some (.ref v0), some (.int x1), some (.int x2)] [] (mk vi vl) post) (k2 : ¬ (vi v0 3) ≤ x2 → wp X (d + 1) k_C_gapFor 0 0 10 [some (.ref v0), some (.int x1), some (.int x2)] [] (mk vi vl) post) : wp X (d + 1) k_C_gapFor 0 0 2 [some (.ref v0), some (.int x1), some (.int x2)] [] (mk vi vl) post :=
  wr_iload_n (q := 2) (by decide +kernel) rfl rfl <|
  wr_aload_n (q := 0) (by decide +kernel) rfl rfl <|
  wr_getI (ci := 0) (k0 := 3) (idx := 22) (cl_lt0 hv0) (cl_s0 hv0) (by decide) (by decide) lf_C_22 (Or.inl rfl) (by decide +kernel) <|
  wr_icmp_ge (off := 31) (t := 38) (by decide +kernel) (by decide) k1 k2
theorem b_C_gapFor_10 {X : aX} {d : Nat} {post : aO} {vi : Nat → Nat → Int32} {vl : Nat → Nat → Int64} {v0 : Nat} {x1 x2 : Int32} (hv0 : isCl v0) (q1 : vp_in x2 8) (k1 : ¬ (vi (v0 + 3) x2.toNatClampNeg) = (2 : Int32) → wp X (d + 1) k_C_gapFor 0 0 32 [some (.ref v0), some (.int x1), some (.int x2)] [] (mk vi vl) post) (k2 : (vi (v0 + 3) x2.toNatClampNeg) = (2 : Int32) → wp X (d + 1) k_C_gapFor 0 0 20 [some (.ref v0), some (.int x1), some (.int x2)] [] (mk vi vl) post) : wp X (d + 1) k_C_gapFor 0 0 10 [some (.ref v0), some (.int x1), some (.int x2)] [] (mk vi vl) post :=
  wr_aload_n (q := 0) (by decide +kernel) rfl rfl <|
  wr_getR2 (b := v0 + 3) (ci := 0) (k0 := 4) (idx := 25) (cl_lt0 hv0) (cl_s0 hv0) (by decide) (by decide) lf_C_25 rfl (cl_v4 hv0) (cl_lt hv0 3 (by decide)) (by decide +kernel) <|
  wr_iload_n (q := 2) (by decide +kernel) rfl rfl <|
  wr_iald (cl_lt hv0 3 (by decide)) (cl_s3 hv0) q1 (by decide +kernel) <|
  wr_iconst (n := 2) (v := (2 : Int32)) (by decide +kernel) (by decide) <|
  wr_icmp_ne (off := 15) (t := 32) (by decide +kernel) (by decide) k1 k2
theorem b_C_gapFor_20 {X : aX} {d : Nat} {post : aO} {vi : Nat → Nat → Int32} {vl : Nat → Nat → Int64} {v0 : Nat} {x1 x2 : Int32} (hv0 : isCl v0) (q1 : vp_in x2 8) (k1 : ¬ (vi (v0 + 4) x2.toNatClampNeg) = x1 → wp X (d + 1) k_C_gapFor 0 0 32 [some (.ref v0), some (.int x1), some (.int x2)] [] (mk vi vl) post) (k2 : (vi (v0 + 4) x2.toNatClampNeg) = x1 → wp X (d + 1) k_C_gapFor 0 0 30 [some (.ref v0), some (.int x1), some (.int x2)] [] (mk vi vl) post) : wp X (d + 1) k_C_gapFor 0 0 20 [some (.ref v0), some (.int x1), some (.int x2)] [] (mk vi vl) post :=
  wr_aload_n (q := 0) (by decide +kernel) rfl rfl <|
  wr_getR2 (b := v0 + 4) (ci := 0) (k0 := 5) (idx := 28) (cl_lt0 hv0) (cl_s0 hv0) (by decide) (by decide) lf_C_28 rfl (cl_v5 hv0) (cl_lt hv0 4 (by decide)) (by decide +kernel) <|
  wr_iload_n (q := 2) (by decide +kernel) rfl rfl <|
  wr_iald (cl_lt hv0 4 (by decide)) (cl_s4 hv0) q1 (by decide +kernel) <|
  wr_iload_n (q := 1) (by decide +kernel) rfl rfl <|
  wr_icmp_ne (off := 5) (t := 32) (by decide +kernel) (by decide) k1 k2
theorem b_C_gapFor_30 {X : aX} {d : Nat} {post : aO} {vi : Nat → Nat → Int32} {vl : Nat → Nat → Int64} {v0 : Nat} {x1 x2 : Int32} (k1 : post (some (.int x2)) (mk vi vl)) : wp X (d + 1) k_C_gapFor 0 0 30 [some (.ref v0), some (.int x1), some (.int x2)] [] (mk vi vl) post :=
  wr_iload_n (q := 2) (by decide +kernel) rfl rfl <|
  wr_ret (r := some (.int x2)) (Or.inr (Or.inl ⟨_, rfl, (by decide +kernel), (Or.inl rfl)⟩)) k1
theorem b_C_gapFor_32 {X : aX} {d : Nat} {post : aO} {vi : Nat → Nat → Int32} {vl : Nat → Nat → Int64} {v0 : Nat} {x1 x2 : Int32} (k1 : wp X (d + 1) k_C_gapFor 0 0 2 [some (.ref v0), some (.int x1), some (.int (x2 + (1 : Int32)))] [] (mk vi vl) post) : wp X (d + 1) k_C_gapFor 0 0 32 [some (.ref v0), some (.int x1), some (.int x2)] [] (mk vi vl) post :=
  wr_iinc (i := 2) (n := 1) (v := (1 : Int32)) (by decide +kernel) rfl (by decide) (by decide) <|
  wr_goto (off := -33) (t := 2) (by decide +kernel) (by decide) k1
theorem b_C_gapFor_38 {X : aX} {d : Nat} {post : aO} {vi : Nat → Nat → Int32} {vl : Nat → Nat → Int64} {v0 : Nat} {x1 x2 : Int32} (k1 : post (some (.int (-9 : Int32))) (mk vi vl)) : wp X (d + 1) k_C_gapFor 0 0 38 [some (.ref v0), some (.int x1), some (.int x2)] [] (mk vi vl) post :=
  wr_bipush (n := -9) (v := (-9 : Int32)) (by decide +kernel) (by decide) <|
  wr_ret (r := some (.int (-9 : Int32))) (Or.inr (Or.inl ⟨_, rfl, (by decide +kernel), (Or.inl rfl)⟩)) k1
theorem b_C_lawHoldingIn_0 {X : aX} {d : Nat} {post : aO} {vi : Nat → Nat → Int32} {vl : Nat → Nat → Int64} {v0 : Nat} {x1 : Int32} (k1 : wp X (d + 1) k_C_lawHoldingIn 0 0 2 [some (.ref v0), some (.int x1), some (.int (0 : Int32))] [] (mk vi vl) post) : wp X (d + 1) k_C_lawHoldingIn 0 0 0 [some (.ref v0), some (.int x1), none] [] (mk vi vl) post :=
  wr_iconst (n := 0) (v := (0 : Int32)) (by decide +kernel) (by decide) <|
  wr_istore_n (q := 2) (by decide +kernel) rfl (by decide) <|
  k1
theorem b_C_lawHoldingIn_2 {X : aX} {d : Nat} {post : aO} {vi : Nat → Nat → Int32} {vl : Nat → Nat → Int64} {v0 : Nat} {x1 x2 : Int32} (hv0 : isCl v0) (k1 : (vi v0 3) ≤ x2 → wp X (d + 1) k_C_lawHoldingIn 0 0 27 [some (.ref v0), some (.int x1), some (.int x2)] [] (mk vi vl) post) (k2 : ¬ (vi v0 3) ≤ x2 → wp X (d + 1) k_C_lawHoldingIn 0 0 10 [some (.ref v0), some (.int x1), some (.int x2)] [] (mk vi vl) post) : wp X (d + 1) k_C_lawHoldingIn 0 0 2 [some (.ref v0), some (.int x1), some (.int x2)] [] (mk vi vl) post :=
  wr_iload_n (q := 2) (by decide +kernel) rfl rfl <|
  wr_aload_n (q := 0) (by decide +kernel) rfl rfl <|
  wr_getI (ci := 0) (k0 := 3) (idx := 22) (cl_lt0 hv0) (cl_s0 hv0) (by decide) (by decide) lf_C_22 (Or.inl rfl) (by decide +kernel) <|
  wr_icmp_ge (off := 20) (t := 27) (by decide +kernel) (by decide) k1 k2
theorem b_C_lawHoldingIn_10 {X : aX} {d : Nat} {post : aO} {vi : Nat → Nat → Int32} {vl : Nat → Nat → Int64} {v0 : Nat} {x1 x2 : Int32} (k1 : CallOk X d 0 0 k_C_holds [.ref v0, .int x2, .int x1] (mk vi vl) (fun r N' => wp X (d + 1) k_C_lawHoldingIn 0 0 16 [some (.ref v0), some (.int x1), some (.int x2)] (pR r []) N' post)) (hv0 : isCl v0) : wp X (d + 1) k_C_lawHoldingIn 0 0 10 [some (.ref v0), some (.int x1), some (.int x2)] [] (mk vi vl) post :=
  wr_aload_n (q := 0) (by decide +kernel) rfl rfl <|
  wr_iload_n (q := 2) (by decide +kernel) rfl rfl <|
  wr_iload_n (q := 1) (by decide +kernel) rfl rfl <|
  wr_invV (a := v0) (ci := 0) (mid2 := 43) (idx := 84) (b1 := 0) (b2 := 0) (c1 := 0) (c2 := 0) (as := [.int x2, .int x1]) (st := []) pl_43 rfl (Nat.le_of_ble_eq_true rfl) rfl rfl (cl_lt0 hv0) (cl_s0 hv0) (by decide) rfl lm_C_84 im_43 is_43 (by decide +kernel) k1
theorem b_C_lawHoldingIn_16 {X : aX} {d : Nat} {post : aO} {vi : Nat → Nat → Int32} {vl : Nat → Nat → Int64} {v0 : Nat} {x1 x2 y0 : Int32} (k1 : y0 = 0 → wp X (d + 1) k_C_lawHoldingIn 0 0 21 [some (.ref v0), some (.int x1), some (.int x2)] [] (mk vi vl) post) (k2 : ¬ y0 = 0 → wp X (d + 1) k_C_lawHoldingIn 0 0 19 [some (.ref v0), some (.int x1), some (.int x2)] [] (mk vi vl) post) : wp X (d + 1) k_C_lawHoldingIn 0 0 16 [some (.ref v0), some (.int x1), some (.int x2)] [.int y0] (mk vi vl) post :=
  wr_if_eq (off := 5) (t := 21) (by decide +kernel) (by decide) k1 k2
theorem b_C_lawHoldingIn_19 {X : aX} {d : Nat} {post : aO} {vi : Nat → Nat → Int32} {vl : Nat → Nat → Int64} {v0 : Nat} {x1 x2 : Int32} (k1 : post (some (.int x2)) (mk vi vl)) : wp X (d + 1) k_C_lawHoldingIn 0 0 19 [some (.ref v0), some (.int x1), some (.int x2)] [] (mk vi vl) post :=
  wr_iload_n (q := 2) (by decide +kernel) rfl rfl <|
  wr_ret (r := some (.int x2)) (Or.inr (Or.inl ⟨_, rfl, (by decide +kernel), (Or.inl rfl)⟩)) k1
theorem b_C_lawHoldingIn_21 {X : aX} {d : Nat} {post : aO} {vi : Nat → Nat → Int32} {vl : Nat → Nat → Int64} {v0 : Nat} {x1 x2 : Int32} (k1 : wp X (d + 1) k_C_lawHoldingIn 0 0 2 [some (.ref v0), some (.int x1), some (.int (x2 + (1 : Int32)))] [] (mk vi vl) post) : wp X (d + 1) k_C_lawHoldingIn 0 0 21 [some (.ref v0), some (.int x1), some (.int x2)] [] (mk vi vl) post :=
  wr_iinc (i := 2) (n := 1) (v := (1 : Int32)) (by decide +kernel) rfl (by decide) (by decide) <|
  wr_goto (off := -22) (t := 2) (by decide +kernel) (by decide) k1
theorem b_C_lawHoldingIn_27 {X : aX} {d : Nat} {post : aO} {vi : Nat → Nat → Int32} {vl : Nat → Nat → Int64} {v0 : Nat} {x1 x2 : Int32} (k1 : post (some (.int (-9 : Int32))) (mk vi vl)) : wp X (d + 1) k_C_lawHoldingIn 0 0 27 [some (.ref v0), some (.int x1), some (.int x2)] [] (mk vi vl) post :=
  wr_bipush (n := -9) (v := (-9 : Int32)) (by decide +kernel) (by decide) <|
  wr_ret (r := some (.int (-9 : Int32))) (Or.inr (Or.inl ⟨_, rfl, (by decide +kernel), (Or.inl rfl)⟩)) k1
theorem b_C_holds_0 {X : aX} {d : Nat} {post : aO} {vi : Nat → Nat → Int32} {vl : Nat → Nat → Int64} {v0 : Nat} {x1 x2 : Int32} (k1 : x2 < (1 : Int32) → wp X (d + 1) k_C_holds 0 0 26 [some (.ref v0), some (.int x1), some (.int x2), none, none] [] (mk vi vl) post) (k2 : ¬ x2 < (1 : Int32) → wp X (d + 1) k_C_holds 0 0 5 [some (.ref v0), some (.int x1), some (.int x2), none, none] [] (mk vi vl) post) : wp X (d + 1) k_C_holds 0 0 0 [some (.ref v0), some (.int x1), some (.int x2), none, none] [] (mk vi vl) post :=
  wr_iload_n (q := 2) (by decide +kernel) rfl rfl <|
  wr_iconst (n := 1) (v := (1 : Int32)) (by decide +kernel) (by decide) <|
  wr_icmp_lt (off := 24) (t := 26) (by decide +kernel) (by decide) k1 k2
theorem b_C_holds_5 {X : aX} {d : Nat} {post : aO} {vi : Nat → Nat → Int32} {vl : Nat → Nat → Int64} {v0 : Nat} {x1 x2 : Int32} {o3 o4 : Option Value} (hv0 : isCl v0) (q1 : vp_in (x2 - (1 : Int32)) 5) (q2 : vp_in x1 8) (k1 : ¬ (vi (v0 + 9) (x2 - (1 : Int32)).toNatClampNeg) = (vi (v0 + 4) x1.toNatClampNeg) → wp X (d + 1) k_C_holds 0 0 26 [some (.ref v0), some (.int x1), some (.int x2), o3, o4] [] (mk vi vl) post) (k2 : (vi (v0 + 9) (x2 - (1 : Int32)).toNatClampNeg) = (vi (v0 + 4) x1.toNatClampNeg) → wp X (d + 1) k_C_holds 0 0 22 [some (.ref v0), some (.int x1), some (.int x2), o3, o4] [] (mk vi vl) post) : wp X (d + 1) k_C_holds 0 0 5 [some (.ref v0), some (.int x1), some (.int x2), o3, o4] [] (mk vi vl) post :=
  wr_aload_n (q := 0) (by decide +kernel) rfl rfl <|
  wr_getR2 (b := v0 + 9) (ci := 0) (k0 := 11) (idx := 46) (cl_lt0 hv0) (cl_s0 hv0) (by decide) (by decide) lf_C_46 rfl (cl_v11 hv0) (cl_lt hv0 9 (by decide)) (by decide +kernel) <|
  wr_iload_n (q := 2) (by decide +kernel) rfl rfl <|
  wr_iconst (n := 1) (v := (1 : Int32)) (by decide +kernel) (by decide) <|
  wr_isub (by decide +kernel) <|
  wr_iald (cl_lt hv0 9 (by decide)) (cl_s9 hv0) q1 (by decide +kernel) <|
  wr_aload_n (q := 0) (by decide +kernel) rfl rfl <|
  wr_getR2 (b := v0 + 4) (ci := 0) (k0 := 5) (idx := 28) (cl_lt0 hv0) (cl_s0 hv0) (by decide) (by decide) lf_C_28 rfl (cl_v5 hv0) (cl_lt hv0 4 (by decide)) (by decide +kernel) <|
  wr_iload_n (q := 1) (by decide +kernel) rfl rfl <|
  wr_iald (cl_lt hv0 4 (by decide)) (cl_s4 hv0) q2 (by decide +kernel) <|
  wr_icmp_ne (off := 7) (t := 26) (by decide +kernel) (by decide) k1 k2
theorem b_C_holds_22 {X : aX} {d : Nat} {post : aO} {vi : Nat → Nat → Int32} {vl : Nat → Nat → Int64} {v0 : Nat} {x1 x2 : Int32} {o3 o4 : Option Value} (k1 : wp X (d + 1) k_C_holds 0 0 27 [some (.ref v0), some (.int x1), some (.int x2), o3, o4] [.int (1 : Int32)] (mk vi vl) post) : wp X (d + 1) k_C_holds 0 0 22 [some (.ref v0), some (.int x1), some (.int x2), o3, o4] [] (mk vi vl) post :=
  wr_iconst (n := 1) (v := (1 : Int32)) (by decide +kernel) (by decide) <|
  wr_goto (off := 4) (t := 27) (by decide +kernel) (by decide) k1
theorem b_C_holds_26 {X : aX} {d : Nat} {post : aO} {vi : Nat → Nat → Int32} {vl : Nat → Nat → Int64} {v0 : Nat} {x1 x2 : Int32} {o3 o4 : Option Value} (k1 : wp X (d + 1) k_C_holds 0 0 27 [some (.ref v0), some (.int x1), some (.int x2), o3, o4] [.int (0 : Int32)] (mk vi vl) post) : wp X (d + 1) k_C_holds 0 0 26 [some (.ref v0), some (.int x1), some (.int x2), o3, o4] [] (mk vi vl) post :=
  wr_iconst (n := 0) (v := (0 : Int32)) (by decide +kernel) (by decide) <|
  k1
theorem b_C_holds_27 {X : aX} {d : Nat} {post : aO} {vi : Nat → Nat → Int32} {vl : Nat → Nat → Int64} {v0 : Nat} {x1 x2 y0 : Int32} {o3 o4 : Option Value} (k1 : x2 < (2 : Int32) → wp X (d + 1) k_C_holds 0 0 54 [some (.ref v0), some (.int x1), some (.int x2), some (.int y0), o4] [] (mk vi vl) post) (k2 : ¬ x2 < (2 : Int32) → wp X (d + 1) k_C_holds 0 0 33 [some (.ref v0), some (.int x1), some (.int x2), some (.int y0), o4] [] (mk vi vl) post) : wp X (d + 1) k_C_holds 0 0 27 [some (.ref v0), some (.int x1), some (.int x2), o3, o4] [.int y0] (mk vi vl) post :=
  wr_istore_n (q := 3) (by decide +kernel) rfl (by decide) <|
  wr_iload_n (q := 2) (by decide +kernel) rfl rfl <|
  wr_iconst (n := 2) (v := (2 : Int32)) (by decide +kernel) (by decide) <|
  wr_icmp_lt (off := 24) (t := 54) (by decide +kernel) (by decide) k1 k2
theorem b_C_holds_33 {X : aX} {d : Nat} {post : aO} {vi : Nat → Nat → Int32} {vl : Nat → Nat → Int64} {v0 : Nat} {x1 x2 x3 : Int32} {o4 : Option Value} (hv0 : isCl v0) (q1 : vp_in (x2 - (2 : Int32)) 5) (q2 : vp_in x1 8) (k1 : ¬ (vi (v0 + 9) (x2 - (2 : Int32)).toNatClampNeg) = (vi (v0 + 4) x1.toNatClampNeg) → wp X (d + 1) k_C_holds 0 0 54 [some (.ref v0), some (.int x1), some (.int x2), some (.int x3), o4] [] (mk vi vl) post) (k2 : (vi (v0 + 9) (x2 - (2 : Int32)).toNatClampNeg) = (vi (v0 + 4) x1.toNatClampNeg) → wp X (d + 1) k_C_holds 0 0 50 [some (.ref v0), some (.int x1), some (.int x2), some (.int x3), o4] [] (mk vi vl) post) : wp X (d + 1) k_C_holds 0 0 33 [some (.ref v0), some (.int x1), some (.int x2), some (.int x3), o4] [] (mk vi vl) post :=
  wr_aload_n (q := 0) (by decide +kernel) rfl rfl <|
  wr_getR2 (b := v0 + 9) (ci := 0) (k0 := 11) (idx := 46) (cl_lt0 hv0) (cl_s0 hv0) (by decide) (by decide) lf_C_46 rfl (cl_v11 hv0) (cl_lt hv0 9 (by decide)) (by decide +kernel) <|
  wr_iload_n (q := 2) (by decide +kernel) rfl rfl <|
  wr_iconst (n := 2) (v := (2 : Int32)) (by decide +kernel) (by decide) <|
  wr_isub (by decide +kernel) <|
  wr_iald (cl_lt hv0 9 (by decide)) (cl_s9 hv0) q1 (by decide +kernel) <|
  wr_aload_n (q := 0) (by decide +kernel) rfl rfl <|
  wr_getR2 (b := v0 + 4) (ci := 0) (k0 := 5) (idx := 28) (cl_lt0 hv0) (cl_s0 hv0) (by decide) (by decide) lf_C_28 rfl (cl_v5 hv0) (cl_lt hv0 4 (by decide)) (by decide +kernel) <|
  wr_iload_n (q := 1) (by decide +kernel) rfl rfl <|
  wr_iald (cl_lt hv0 4 (by decide)) (cl_s4 hv0) q2 (by decide +kernel) <|
  wr_icmp_ne (off := 7) (t := 54) (by decide +kernel) (by decide) k1 k2
theorem b_C_holds_50 {X : aX} {d : Nat} {post : aO} {vi : Nat → Nat → Int32} {vl : Nat → Nat → Int64} {v0 : Nat} {x1 x2 x3 : Int32} {o4 : Option Value} (k1 : wp X (d + 1) k_C_holds 0 0 55 [some (.ref v0), some (.int x1), some (.int x2), some (.int x3), o4] [.int (1 : Int32)] (mk vi vl) post) : wp X (d + 1) k_C_holds 0 0 50 [some (.ref v0), some (.int x1), some (.int x2), some (.int x3), o4] [] (mk vi vl) post :=
  wr_iconst (n := 1) (v := (1 : Int32)) (by decide +kernel) (by decide) <|
  wr_goto (off := 4) (t := 55) (by decide +kernel) (by decide) k1
theorem b_C_holds_54 {X : aX} {d : Nat} {post : aO} {vi : Nat → Nat → Int32} {vl : Nat → Nat → Int64} {v0 : Nat} {x1 x2 x3 : Int32} {o4 : Option Value} (k1 : wp X (d + 1) k_C_holds 0 0 55 [some (.ref v0), some (.int x1), some (.int x2), some (.int x3), o4] [.int (0 : Int32)] (mk vi vl) post) : wp X (d + 1) k_C_holds 0 0 54 [some (.ref v0), some (.int x1), some (.int x2), some (.int x3), o4] [] (mk vi vl) post :=
  wr_iconst (n := 0) (v := (0 : Int32)) (by decide +kernel) (by decide) <|
  k1
theorem b_C_holds_55 {X : aX} {d : Nat} {post : aO} {vi : Nat → Nat → Int32} {vl : Nat → Nat → Int64} {v0 : Nat} {x1 x2 x3 y0 : Int32} {o4 : Option Value} (hv0 : isCl v0) (q1 : vp_in x1 8) (k1 : swk (fun t => wp X (d + 1) k_C_holds 0 0 t [some (.ref v0), some (.int x1), some (.int x2), some (.int x3), some (.int y0)] [] (mk vi vl) post) 116 (vi (v0 + 3) x1.toNatClampNeg) [((0 : Int32), 96), ((3 : Int32), 98), ((5 : Int32), 101)]) : wp X (d + 1) k_C_holds 0 0 55 [some (.ref v0), some (.int x1), some (.int x2), some (.int x3), o4] [.int y0] (mk vi vl) post :=
  wr_istore (i := 4) (by decide +kernel) (by decide) <|
  wr_aload_n (q := 0) (by decide +kernel) rfl rfl <|
  wr_getR2 (b := v0 + 3) (ci := 0) (k0 := 4) (idx := 25) (cl_lt0 hv0) (cl_s0 hv0) (by decide) (by decide) lf_C_25 rfl (cl_v4 hv0) (cl_lt hv0 3 (by decide)) (by decide +kernel) <|
  wr_iload_n (q := 1) (by decide +kernel) rfl rfl <|
  wr_iald (cl_lt hv0 3 (by decide)) (cl_s3 hv0) q1 (by decide +kernel) <|
  wr_lsw (dflt := 53) (ps := #[(0, 33), (3, 35), (5, 38)]) (len := 33) (dt := 116) (ts := [((0 : Int32), 96), ((3 : Int32), 98), ((5 : Int32), 101)]) (by decide +kernel) (by decide +kernel) (by decide +kernel) (by decide) k1
theorem b_C_holds_96 {X : aX} {d : Nat} {post : aO} {vi : Nat → Nat → Int32} {vl : Nat → Nat → Int64} {v0 : Nat} {x1 x2 x3 x4 : Int32} (q1 : x3 = 0 ∨ x3 = 1) (k1 : post (some (.int x3)) (mk vi vl)) : wp X (d + 1) k_C_holds 0 0 96 [some (.ref v0), some (.int x1), some (.int x2), some (.int x3), some (.int x4)] [] (mk vi vl) post :=
  wr_iload_n (q := 3) (by decide +kernel) rfl rfl <|
  wr_ret (r := some (.int x3)) (Or.inr (Or.inl ⟨_, rfl, (by decide +kernel), (Or.inr ⟨rfl, q1⟩)⟩)) k1
theorem b_C_holds_98 {X : aX} {d : Nat} {post : aO} {vi : Nat → Nat → Int32} {vl : Nat → Nat → Int64} {v0 : Nat} {x1 x2 x3 x4 : Int32} (q1 : x4 = 0 ∨ x4 = 1) (k1 : post (some (.int x4)) (mk vi vl)) : wp X (d + 1) k_C_holds 0 0 98 [some (.ref v0), some (.int x1), some (.int x2), some (.int x3), some (.int x4)] [] (mk vi vl) post :=
  wr_iload (i := 4) (by decide +kernel) rfl <|
  wr_ret (r := some (.int x4)) (Or.inr (Or.inl ⟨_, rfl, (by decide +kernel), (Or.inr ⟨rfl, q1⟩)⟩)) k1
theorem b_C_holds_101 {X : aX} {d : Nat} {post : aO} {vi : Nat → Nat → Int32} {vl : Nat → Nat → Int64} {v0 : Nat} {x1 x2 x3 x4 : Int32} (k1 : ¬ x3 = 0 → wp X (d + 1) k_C_holds 0 0 110 [some (.ref v0), some (.int x1), some (.int x2), some (.int x3), some (.int x4)] [] (mk vi vl) post) (k2 : x3 = 0 → wp X (d + 1) k_C_holds 0 0 105 [some (.ref v0), some (.int x1), some (.int x2), some (.int x3), some (.int x4)] [] (mk vi vl) post) : wp X (d + 1) k_C_holds 0 0 101 [some (.ref v0), some (.int x1), some (.int x2), some (.int x3), some (.int x4)] [] (mk vi vl) post :=
  wr_iload_n (q := 3) (by decide +kernel) rfl rfl <|
  wr_if_ne (off := 8) (t := 110) (by decide +kernel) (by decide) k1 k2
theorem b_C_holds_105 {X : aX} {d : Nat} {post : aO} {vi : Nat → Nat → Int32} {vl : Nat → Nat → Int64} {v0 : Nat} {x1 x2 x3 x4 : Int32} (k1 : x4 = 0 → wp X (d + 1) k_C_holds 0 0 114 [some (.ref v0), some (.int x1), some (.int x2), some (.int x3), some (.int x4)] [] (mk vi vl) post) (k2 : ¬ x4 = 0 → wp X (d + 1) k_C_holds 0 0 110 [some (.ref v0), some (.int x1), some (.int x2), some (.int x3), some (.int x4)] [] (mk vi vl) post) : wp X (d + 1) k_C_holds 0 0 105 [some (.ref v0), some (.int x1), some (.int x2), some (.int x3), some (.int x4)] [] (mk vi vl) post :=
  wr_iload (i := 4) (by decide +kernel) rfl <|
  wr_if_eq (off := 7) (t := 114) (by decide +kernel) (by decide) k1 k2
theorem b_C_holds_110 {X : aX} {d : Nat} {post : aO} {vi : Nat → Nat → Int32} {vl : Nat → Nat → Int64} {v0 : Nat} {x1 x2 x3 x4 : Int32} (k1 : wp X (d + 1) k_C_holds 0 0 115 [some (.ref v0), some (.int x1), some (.int x2), some (.int x3), some (.int x4)] [.int (1 : Int32)] (mk vi vl) post) : wp X (d + 1) k_C_holds 0 0 110 [some (.ref v0), some (.int x1), some (.int x2), some (.int x3), some (.int x4)] [] (mk vi vl) post :=
  wr_iconst (n := 1) (v := (1 : Int32)) (by decide +kernel) (by decide) <|
  wr_goto (off := 4) (t := 115) (by decide +kernel) (by decide) k1
theorem b_C_holds_114 {X : aX} {d : Nat} {post : aO} {vi : Nat → Nat → Int32} {vl : Nat → Nat → Int64} {v0 : Nat} {x1 x2 x3 x4 : Int32} (k1 : wp X (d + 1) k_C_holds 0 0 115 [some (.ref v0), some (.int x1), some (.int x2), some (.int x3), some (.int x4)] [.int (0 : Int32)] (mk vi vl) post) : wp X (d + 1) k_C_holds 0 0 114 [some (.ref v0), some (.int x1), some (.int x2), some (.int x3), some (.int x4)] [] (mk vi vl) post :=
  wr_iconst (n := 0) (v := (0 : Int32)) (by decide +kernel) (by decide) <|
  k1
theorem b_C_holds_115 {X : aX} {d : Nat} {post : aO} {vi : Nat → Nat → Int32} {vl : Nat → Nat → Int64} {v0 : Nat} {x1 x2 x3 x4 y0 : Int32} (q1 : y0 = 0 ∨ y0 = 1) (k1 : post (some (.int y0)) (mk vi vl)) : wp X (d + 1) k_C_holds 0 0 115 [some (.ref v0), some (.int x1), some (.int x2), some (.int x3), some (.int x4)] [.int y0] (mk vi vl) post :=
  wr_ret (r := some (.int y0)) (Or.inr (Or.inl ⟨_, rfl, (by decide +kernel), (Or.inr ⟨rfl, q1⟩)⟩)) k1
theorem b_C_holds_116 {X : aX} {d : Nat} {post : aO} {vi : Nat → Nat → Int32} {vl : Nat → Nat → Int64} {v0 : Nat} {x1 x2 x3 x4 : Int32} (k1 : post (some (.int (0 : Int32))) (mk vi vl)) : wp X (d + 1) k_C_holds 0 0 116 [some (.ref v0), some (.int x1), some (.int x2), some (.int x3), some (.int x4)] [] (mk vi vl) post :=
  wr_iconst (n := 0) (v := (0 : Int32)) (by decide +kernel) (by decide) <|
  wr_ret (r := some (.int (0 : Int32))) (Or.inr (Or.inl ⟨_, rfl, (by decide +kernel), (Or.inr ⟨rfl, (by decide)⟩)⟩)) k1
theorem b_C_isBroken_0 {X : aX} {d : Nat} {post : aO} {vi : Nat → Nat → Int32} {vl : Nat → Nat → Int64} {v0 : Nat} {x1 : Int32} (k1 : wp X (d + 1) k_C_isBroken 0 0 2 [some (.ref v0), some (.int x1), some (.int (1 : Int32))] [] (mk vi vl) post) : wp X (d + 1) k_C_isBroken 0 0 0 [some (.ref v0), some (.int x1), none] [] (mk vi vl) post :=
  wr_iconst (n := 1) (v := (1 : Int32)) (by decide +kernel) (by decide) <|
  wr_istore_n (q := 2) (by decide +kernel) rfl (by decide) <|
  k1
theorem b_C_isBroken_2 {X : aX} {d : Nat} {post : aO} {vi : Nat → Nat → Int32} {vl : Nat → Nat → Int64} {v0 : Nat} {x1 x2 : Int32} (hv0 : isCl v0) (k1 : (vi v0 0) ≤ x2 → wp X (d + 1) k_C_isBroken 0 0 27 [some (.ref v0), some (.int x1), some (.int x2)] [] (mk vi vl) post) (k2 : ¬ (vi v0 0) ≤ x2 → wp X (d + 1) k_C_isBroken 0 0 10 [some (.ref v0), some (.int x1), some (.int x2)] [] (mk vi vl) post) : wp X (d + 1) k_C_isBroken 0 0 2 [some (.ref v0), some (.int x1), some (.int x2)] [] (mk vi vl) post :=
  wr_iload_n (q := 2) (by decide +kernel) rfl rfl <|
  wr_aload_n (q := 0) (by decide +kernel) rfl rfl <|
  wr_getI (ci := 0) (k0 := 0) (idx := 9) (cl_lt0 hv0) (cl_s0 hv0) (by decide) (by decide) lf_C_9 (Or.inl rfl) (by decide +kernel) <|
  wr_icmp_ge (off := 20) (t := 27) (by decide +kernel) (by decide) k1 k2
theorem b_C_isBroken_10 {X : aX} {d : Nat} {post : aO} {vi : Nat → Nat → Int32} {vl : Nat → Nat → Int64} {v0 : Nat} {x1 x2 : Int32} (k1 : CallOk X d 0 0 k_C_isBrokenIn [.ref v0, .int x1, .int x2] (mk vi vl) (fun r N' => wp X (d + 1) k_C_isBroken 0 0 16 [some (.ref v0), some (.int x1), some (.int x2)] (pR r []) N' post)) (hv0 : isCl v0) : wp X (d + 1) k_C_isBroken 0 0 10 [some (.ref v0), some (.int x1), some (.int x2)] [] (mk vi vl) post :=
  wr_aload_n (q := 0) (by decide +kernel) rfl rfl <|
  wr_iload_n (q := 1) (by decide +kernel) rfl rfl <|
  wr_iload_n (q := 2) (by decide +kernel) rfl rfl <|
  wr_invV (a := v0) (ci := 0) (mid2 := 51) (idx := 103) (b1 := 0) (b2 := 0) (c1 := 0) (c2 := 0) (as := [.int x1, .int x2]) (st := []) pl_51 rfl (Nat.le_of_ble_eq_true rfl) rfl rfl (cl_lt0 hv0) (cl_s0 hv0) (by decide) rfl lm_C_103 im_51 is_51 (by decide +kernel) k1
theorem b_C_isBroken_16 {X : aX} {d : Nat} {post : aO} {vi : Nat → Nat → Int32} {vl : Nat → Nat → Int64} {v0 : Nat} {x1 x2 y0 : Int32} (k1 : y0 = 0 → wp X (d + 1) k_C_isBroken 0 0 21 [some (.ref v0), some (.int x1), some (.int x2)] [] (mk vi vl) post) (k2 : ¬ y0 = 0 → wp X (d + 1) k_C_isBroken 0 0 19 [some (.ref v0), some (.int x1), some (.int x2)] [] (mk vi vl) post) : wp X (d + 1) k_C_isBroken 0 0 16 [some (.ref v0), some (.int x1), some (.int x2)] [.int y0] (mk vi vl) post :=
  wr_if_eq (off := 5) (t := 21) (by decide +kernel) (by decide) k1 k2
theorem b_C_isBroken_19 {X : aX} {d : Nat} {post : aO} {vi : Nat → Nat → Int32} {vl : Nat → Nat → Int64} {v0 : Nat} {x1 x2 : Int32} (k1 : post (some (.int (1 : Int32))) (mk vi vl)) : wp X (d + 1) k_C_isBroken 0 0 19 [some (.ref v0), some (.int x1), some (.int x2)] [] (mk vi vl) post :=
  wr_iconst (n := 1) (v := (1 : Int32)) (by decide +kernel) (by decide) <|
  wr_ret (r := some (.int (1 : Int32))) (Or.inr (Or.inl ⟨_, rfl, (by decide +kernel), (Or.inr ⟨rfl, (by decide)⟩)⟩)) k1
theorem b_C_isBroken_21 {X : aX} {d : Nat} {post : aO} {vi : Nat → Nat → Int32} {vl : Nat → Nat → Int64} {v0 : Nat} {x1 x2 : Int32} (k1 : wp X (d + 1) k_C_isBroken 0 0 2 [some (.ref v0), some (.int x1), some (.int (x2 + (1 : Int32)))] [] (mk vi vl) post) : wp X (d + 1) k_C_isBroken 0 0 21 [some (.ref v0), some (.int x1), some (.int x2)] [] (mk vi vl) post :=
  wr_iinc (i := 2) (n := 1) (v := (1 : Int32)) (by decide +kernel) rfl (by decide) (by decide) <|
  wr_goto (off := -22) (t := 2) (by decide +kernel) (by decide) k1
theorem b_C_isBroken_27 {X : aX} {d : Nat} {post : aO} {vi : Nat → Nat → Int32} {vl : Nat → Nat → Int64} {v0 : Nat} {x1 x2 : Int32} (k1 : post (some (.int (0 : Int32))) (mk vi vl)) : wp X (d + 1) k_C_isBroken 0 0 27 [some (.ref v0), some (.int x1), some (.int x2)] [] (mk vi vl) post :=
  wr_iconst (n := 0) (v := (0 : Int32)) (by decide +kernel) (by decide) <|
  wr_ret (r := some (.int (0 : Int32))) (Or.inr (Or.inl ⟨_, rfl, (by decide +kernel), (Or.inr ⟨rfl, (by decide)⟩)⟩)) k1
theorem b_C_isBrokenIn_0 {X : aX} {d : Nat} {post : aO} {vi : Nat → Nat → Int32} {vl : Nat → Nat → Int64} {v0 : Nat} {x1 x2 : Int32} (k1 : CallOk X d 0 0 k_C_isOfKind [.ref v0, .int x1, .int (1 : Int32)] (mk vi vl) (fun r N' => wp X (d + 1) k_C_isBrokenIn 0 0 6 [some (.ref v0), some (.int x1), some (.int x2), none] (pR r []) N' post)) (hv0 : isCl v0) : wp X (d + 1) k_C_isBrokenIn 0 0 0 [some (.ref v0), some (.int x1), some (.int x2), none] [] (mk vi vl) post :=
  wr_aload_n (q := 0) (by decide +kernel) rfl rfl <|
  wr_iload_n (q := 1) (by decide +kernel) rfl rfl <|
  wr_iconst (n := 1) (v := (1 : Int32)) (by decide +kernel) (by decide) <|
  wr_invV (a := v0) (ci := 0) (mid2 := 52) (idx := 94) (b1 := 0) (b2 := 0) (c1 := 0) (c2 := 0) (as := [.int x1, .int (1 : Int32)]) (st := []) pl_52 rfl (Nat.le_of_ble_eq_true rfl) rfl rfl (cl_lt0 hv0) (cl_s0 hv0) (by decide) rfl lm_C_94 im_52 is_52 (by decide +kernel) k1
theorem b_C_isBrokenIn_6 {X : aX} {d : Nat} {post : aO} {vi : Nat → Nat → Int32} {vl : Nat → Nat → Int64} {v0 : Nat} {x1 x2 y0 : Int32} {o3 : Option Value} (k1 : ¬ y0 = 0 → wp X (d + 1) k_C_isBrokenIn 0 0 11 [some (.ref v0), some (.int x1), some (.int x2), o3] [] (mk vi vl) post) (k2 : y0 = 0 → wp X (d + 1) k_C_isBrokenIn 0 0 9 [some (.ref v0), some (.int x1), some (.int x2), o3] [] (mk vi vl) post) : wp X (d + 1) k_C_isBrokenIn 0 0 6 [some (.ref v0), some (.int x1), some (.int x2), o3] [.int y0] (mk vi vl) post :=
  wr_if_ne (off := 5) (t := 11) (by decide +kernel) (by decide) k1 k2
theorem b_C_isBrokenIn_9 {X : aX} {d : Nat} {post : aO} {vi : Nat → Nat → Int32} {vl : Nat → Nat → Int64} {v0 : Nat} {x1 x2 : Int32} {o3 : Option Value} (k1 : post (some (.int (0 : Int32))) (mk vi vl)) : wp X (d + 1) k_C_isBrokenIn 0 0 9 [some (.ref v0), some (.int x1), some (.int x2), o3] [] (mk vi vl) post :=
  wr_iconst (n := 0) (v := (0 : Int32)) (by decide +kernel) (by decide) <|
  wr_ret (r := some (.int (0 : Int32))) (Or.inr (Or.inl ⟨_, rfl, (by decide +kernel), (Or.inr ⟨rfl, (by decide)⟩)⟩)) k1
theorem b_C_isBrokenIn_11 {X : aX} {d : Nat} {post : aO} {vi : Nat → Nat → Int32} {vl : Nat → Nat → Int64} {v0 : Nat} {x1 x2 : Int32} {o3 : Option Value} (hv0 : isCl v0) (q1 : vp_in x1 8) (k1 : ¬ (vi (v0 + 3) x1.toNatClampNeg) = (4 : Int32) → wp X (d + 1) k_C_isBrokenIn 0 0 25 [some (.ref v0), some (.int x1), some (.int x2), o3] [] (mk vi vl) post) (k2 : (vi (v0 + 3) x1.toNatClampNeg) = (4 : Int32) → wp X (d + 1) k_C_isBrokenIn 0 0 21 [some (.ref v0), some (.int x1), some (.int x2), o3] [] (mk vi vl) post) : wp X (d + 1) k_C_isBrokenIn 0 0 11 [some (.ref v0), some (.int x1), some (.int x2), o3] [] (mk vi vl) post :=
  wr_aload_n (q := 0) (by decide +kernel) rfl rfl <|
  wr_getR2 (b := v0 + 3) (ci := 0) (k0 := 4) (idx := 25) (cl_lt0 hv0) (cl_s0 hv0) (by decide) (by decide) lf_C_25 rfl (cl_v4 hv0) (cl_lt hv0 3 (by decide)) (by decide +kernel) <|
  wr_iload_n (q := 1) (by decide +kernel) rfl rfl <|
  wr_iald (cl_lt hv0 3 (by decide)) (cl_s3 hv0) q1 (by decide +kernel) <|
  wr_iconst (n := 4) (v := (4 : Int32)) (by decide +kernel) (by decide) <|
  wr_icmp_ne (off := 7) (t := 25) (by decide +kernel) (by decide) k1 k2
theorem b_C_isBrokenIn_21 {X : aX} {d : Nat} {post : aO} {vi : Nat → Nat → Int32} {vl : Nat → Nat → Int64} {v0 : Nat} {x1 x2 : Int32} {o3 : Option Value} (k1 : wp X (d + 1) k_C_isBrokenIn 0 0 32 [some (.ref v0), some (.int x1), some (.int x2), o3] [.int (0 : Int32)] (mk vi vl) post) : wp X (d + 1) k_C_isBrokenIn 0 0 21 [some (.ref v0), some (.int x1), some (.int x2), o3] [] (mk vi vl) post :=
  wr_iconst (n := 0) (v := (0 : Int32)) (by decide +kernel) (by decide) <|
  wr_goto (off := 10) (t := 32) (by decide +kernel) (by decide) k1
theorem b_C_isBrokenIn_25 {X : aX} {d : Nat} {post : aO} {vi : Nat → Nat → Int32} {vl : Nat → Nat → Int64} {v0 : Nat} {x1 x2 : Int32} {o3 : Option Value} (k1 : wp X (d + 1) k_C_isBrokenIn 0 0 32 [some (.ref v0), some (.int x1), some (.int x2), o3] [.int (if (0 : Int32) < (x2 - (1 : Int32)) then (x2 - (1 : Int32)) else (0 : Int32))] (mk vi vl) post) : wp X (d + 1) k_C_isBrokenIn 0 0 25 [some (.ref v0), some (.int x1), some (.int x2), o3] [] (mk vi vl) post :=
  wr_iconst (n := 0) (v := (0 : Int32)) (by decide +kernel) (by decide) <|
  wr_iload_n (q := 2) (by decide +kernel) rfl rfl <|
  wr_iconst (n := 1) (v := (1 : Int32)) (by decide +kernel) (by decide) <|
  wr_isub (by decide +kernel) <|
  wr_mmax (idx := 97) lm2_C_97 (Nat.le_of_ble_eq_true rfl) (by decide +kernel) <|
  k1
theorem b_C_isBrokenIn_32 {X : aX} {d : Nat} {post : aO} {vi : Nat → Nat → Int32} {vl : Nat → Nat → Int64} {v0 : Nat} {x1 x2 y0 : Int32} {o3 : Option Value} (k1 : wp X (d + 1) k_C_isBrokenIn 0 0 33 [some (.ref v0), some (.int x1), some (.int x2), some (.int y0)] [] (mk vi vl) post) : wp X (d + 1) k_C_isBrokenIn 0 0 32 [some (.ref v0), some (.int x1), some (.int x2), o3] [.int y0] (mk vi vl) post :=
  wr_istore_n (q := 3) (by decide +kernel) rfl (by decide) <|
  k1
theorem b_C_isBrokenIn_33 {X : aX} {d : Nat} {post : aO} {vi : Nat → Nat → Int32} {vl : Nat → Nat → Int64} {v0 : Nat} {x1 x2 x3 : Int32} (k1 : x2 ≤ x3 → wp X (d + 1) k_C_isBrokenIn 0 0 106 [some (.ref v0), some (.int x1), some (.int x2), some (.int x3)] [] (mk vi vl) post) (k2 : ¬ x2 ≤ x3 → wp X (d + 1) k_C_isBrokenIn 0 0 38 [some (.ref v0), some (.int x1), some (.int x2), some (.int x3)] [] (mk vi vl) post) : wp X (d + 1) k_C_isBrokenIn 0 0 33 [some (.ref v0), some (.int x1), some (.int x2), some (.int x3)] [] (mk vi vl) post :=
  wr_iload_n (q := 3) (by decide +kernel) rfl rfl <|
  wr_iload_n (q := 2) (by decide +kernel) rfl rfl <|
  wr_icmp_ge (off := 71) (t := 106) (by decide +kernel) (by decide) k1 k2
theorem b_C_isBrokenIn_38 {X : aX} {d : Nat} {post : aO} {vi : Nat → Nat → Int32} {vl : Nat → Nat → Int64} {v0 : Nat} {x1 x2 x3 : Int32} (hv0 : isCl v0) (q1 : vp_in x3 5) (q2 : vp_in x1 8) (k1 : ¬ (vi (v0 + 9) x3.toNatClampNeg) = (vi (v0 + 4) x1.toNatClampNeg) → wp X (d + 1) k_C_isBrokenIn 0 0 68 [some (.ref v0), some (.int x1), some (.int x2), some (.int x3)] [] (mk vi vl) post) (k2 : (vi (v0 + 9) x3.toNatClampNeg) = (vi (v0 + 4) x1.toNatClampNeg) → wp X (d + 1) k_C_isBrokenIn 0 0 53 [some (.ref v0), some (.int x1), some (.int x2), some (.int x3)] [] (mk vi vl) post) : wp X (d + 1) k_C_isBrokenIn 0 0 38 [some (.ref v0), some (.int x1), some (.int x2), some (.int x3)] [] (mk vi vl) post :=
  wr_aload_n (q := 0) (by decide +kernel) rfl rfl <|
  wr_getR2 (b := v0 + 9) (ci := 0) (k0 := 11) (idx := 46) (cl_lt0 hv0) (cl_s0 hv0) (by decide) (by decide) lf_C_46 rfl (cl_v11 hv0) (cl_lt hv0 9 (by decide)) (by decide +kernel) <|
  wr_iload_n (q := 3) (by decide +kernel) rfl rfl <|
  wr_iald (cl_lt hv0 9 (by decide)) (cl_s9 hv0) q1 (by decide +kernel) <|
  wr_aload_n (q := 0) (by decide +kernel) rfl rfl <|
  wr_getR2 (b := v0 + 4) (ci := 0) (k0 := 5) (idx := 28) (cl_lt0 hv0) (cl_s0 hv0) (by decide) (by decide) lf_C_28 rfl (cl_v5 hv0) (cl_lt hv0 4 (by decide)) (by decide +kernel) <|
  wr_iload_n (q := 1) (by decide +kernel) rfl rfl <|
  wr_iald (cl_lt hv0 4 (by decide)) (cl_s4 hv0) q2 (by decide +kernel) <|
  wr_icmp_ne (off := 18) (t := 68) (by decide +kernel) (by decide) k1 k2
theorem b_C_isBrokenIn_53 {X : aX} {d : Nat} {post : aO} {vi : Nat → Nat → Int32} {vl : Nat → Nat → Int64} {v0 : Nat} {x1 x2 x3 : Int32} (hv0 : isCl v0) (q1 : vp_in x2 5) (q2 : vp_in x1 8) (k1 : (vi (v0 + 9) x2.toNatClampNeg) = (vi (v0 + 5) x1.toNatClampNeg) → wp X (d + 1) k_C_isBrokenIn 0 0 98 [some (.ref v0), some (.int x1), some (.int x2), some (.int x3)] [] (mk vi vl) post) (k2 : ¬ (vi (v0 + 9) x2.toNatClampNeg) = (vi (v0 + 5) x1.toNatClampNeg) → wp X (d + 1) k_C_isBrokenIn 0 0 68 [some (.ref v0), some (.int x1), some (.int x2), some (.int x3)] [] (mk vi vl) post) : wp X (d + 1) k_C_isBrokenIn 0 0 53 [some (.ref v0), some (.int x1), some (.int x2), some (.int x3)] [] (mk vi vl) post :=
  wr_aload_n (q := 0) (by decide +kernel) rfl rfl <|
  wr_getR2 (b := v0 + 9) (ci := 0) (k0 := 11) (idx := 46) (cl_lt0 hv0) (cl_s0 hv0) (by decide) (by decide) lf_C_46 rfl (cl_v11 hv0) (cl_lt hv0 9 (by decide)) (by decide +kernel) <|
  wr_iload_n (q := 2) (by decide +kernel) rfl rfl <|
  wr_iald (cl_lt hv0 9 (by decide)) (cl_s9 hv0) q1 (by decide +kernel) <|
  wr_aload_n (q := 0) (by decide +kernel) rfl rfl <|
  wr_getR2 (b := v0 + 5) (ci := 0) (k0 := 6) (idx := 31) (cl_lt0 hv0) (cl_s0 hv0) (by decide) (by decide) lf_C_31 rfl (cl_v6 hv0) (cl_lt hv0 5 (by decide)) (by decide +kernel) <|
  wr_iload_n (q := 1) (by decide +kernel) rfl rfl <|
  wr_iald (cl_lt hv0 5 (by decide)) (cl_s5 hv0) q2 (by decide +kernel) <|
  wr_icmp_eq (off := 33) (t := 98) (by decide +kernel) (by decide) k1 k2
theorem b_C_isBrokenIn_68 {X : aX} {d : Nat} {post : aO} {vi : Nat → Nat → Int32} {vl : Nat → Nat → Int64} {v0 : Nat} {x1 x2 x3 : Int32} (hv0 : isCl v0) (q1 : vp_in x3 5) (q2 : vp_in x1 8) (k1 : ¬ (vi (v0 + 9) x3.toNatClampNeg) = (vi (v0 + 5) x1.toNatClampNeg) → wp X (d + 1) k_C_isBrokenIn 0 0 100 [some (.ref v0), some (.int x1), some (.int x2), some (.int x3)] [] (mk vi vl) post) (k2 : (vi (v0 + 9) x3.toNatClampNeg) = (vi (v0 + 5) x1.toNatClampNeg) → wp X (d + 1) k_C_isBrokenIn 0 0 83 [some (.ref v0), some (.int x1), some (.int x2), some (.int x3)] [] (mk vi vl) post) : wp X (d + 1) k_C_isBrokenIn 0 0 68 [some (.ref v0), some (.int x1), some (.int x2), some (.int x3)] [] (mk vi vl) post :=
  wr_aload_n (q := 0) (by decide +kernel) rfl rfl <|
  wr_getR2 (b := v0 + 9) (ci := 0) (k0 := 11) (idx := 46) (cl_lt0 hv0) (cl_s0 hv0) (by decide) (by decide) lf_C_46 rfl (cl_v11 hv0) (cl_lt hv0 9 (by decide)) (by decide +kernel) <|
  wr_iload_n (q := 3) (by decide +kernel) rfl rfl <|
  wr_iald (cl_lt hv0 9 (by decide)) (cl_s9 hv0) q1 (by decide +kernel) <|
  wr_aload_n (q := 0) (by decide +kernel) rfl rfl <|
  wr_getR2 (b := v0 + 5) (ci := 0) (k0 := 6) (idx := 31) (cl_lt0 hv0) (cl_s0 hv0) (by decide) (by decide) lf_C_31 rfl (cl_v6 hv0) (cl_lt hv0 5 (by decide)) (by decide +kernel) <|
  wr_iload_n (q := 1) (by decide +kernel) rfl rfl <|
  wr_iald (cl_lt hv0 5 (by decide)) (cl_s5 hv0) q2 (by decide +kernel) <|
  wr_icmp_ne (off := 20) (t := 100) (by decide +kernel) (by decide) k1 k2
theorem b_C_isBrokenIn_83 {X : aX} {d : Nat} {post : aO} {vi : Nat → Nat → Int32} {vl : Nat → Nat → Int64} {v0 : Nat} {x1 x2 x3 : Int32} (hv0 : isCl v0) (q1 : vp_in x2 5) (q2 : vp_in x1 8) (k1 : ¬ (vi (v0 + 9) x2.toNatClampNeg) = (vi (v0 + 4) x1.toNatClampNeg) → wp X (d + 1) k_C_isBrokenIn 0 0 100 [some (.ref v0), some (.int x1), some (.int x2), some (.int x3)] [] (mk vi vl) post) (k2 : (vi (v0 + 9) x2.toNatClampNeg) = (vi (v0 + 4) x1.toNatClampNeg) → wp X (d + 1) k_C_isBrokenIn 0 0 98 [some (.ref v0), some (.int x1), some (.int x2), some (.int x3)] [] (mk vi vl) post) : wp X (d + 1) k_C_isBrokenIn 0 0 83 [some (.ref v0), some (.int x1), some (.int x2), some (.int x3)] [] (mk vi vl) post :=
  wr_aload_n (q := 0) (by decide +kernel) rfl rfl <|
  wr_getR2 (b := v0 + 9) (ci := 0) (k0 := 11) (idx := 46) (cl_lt0 hv0) (cl_s0 hv0) (by decide) (by decide) lf_C_46 rfl (cl_v11 hv0) (cl_lt hv0 9 (by decide)) (by decide +kernel) <|
  wr_iload_n (q := 2) (by decide +kernel) rfl rfl <|
  wr_iald (cl_lt hv0 9 (by decide)) (cl_s9 hv0) q1 (by decide +kernel) <|
  wr_aload_n (q := 0) (by decide +kernel) rfl rfl <|
  wr_getR2 (b := v0 + 4) (ci := 0) (k0 := 5) (idx := 28) (cl_lt0 hv0) (cl_s0 hv0) (by decide) (by decide) lf_C_28 rfl (cl_v5 hv0) (cl_lt hv0 4 (by decide)) (by decide +kernel) <|
  wr_iload_n (q := 1) (by decide +kernel) rfl rfl <|
  wr_iald (cl_lt hv0 4 (by decide)) (cl_s4 hv0) q2 (by decide +kernel) <|
  wr_icmp_ne (off := 5) (t := 100) (by decide +kernel) (by decide) k1 k2
theorem b_C_isBrokenIn_98 {X : aX} {d : Nat} {post : aO} {vi : Nat → Nat → Int32} {vl : Nat → Nat → Int64} {v0 : Nat} {x1 x2 x3 : Int32} (k1 : post (some (.int (1 : Int32))) (mk vi vl)) : wp X (d + 1) k_C_isBrokenIn 0 0 98 [some (.ref v0), some (.int x1), some (.int x2), some (.int x3)] [] (mk vi vl) post :=
  wr_iconst (n := 1) (v := (1 : Int32)) (by decide +kernel) (by decide) <|
  wr_ret (r := some (.int (1 : Int32))) (Or.inr (Or.inl ⟨_, rfl, (by decide +kernel), (Or.inr ⟨rfl, (by decide)⟩)⟩)) k1
theorem b_C_isBrokenIn_100 {X : aX} {d : Nat} {post : aO} {vi : Nat → Nat → Int32} {vl : Nat → Nat → Int64} {v0 : Nat} {x1 x2 x3 : Int32} (k1 : wp X (d + 1) k_C_isBrokenIn 0 0 33 [some (.ref v0), some (.int x1), some (.int x2), some (.int (x3 + (1 : Int32)))] [] (mk vi vl) post) : wp X (d + 1) k_C_isBrokenIn 0 0 100 [some (.ref v0), some (.int x1), some (.int x2), some (.int x3)] [] (mk vi vl) post :=
  wr_iinc (i := 3) (n := 1) (v := (1 : Int32)) (by decide +kernel) rfl (by decide) (by decide) <|
  wr_goto (off := -70) (t := 33) (by decide +kernel) (by decide) k1
theorem b_C_isBrokenIn_106 {X : aX} {d : Nat} {post : aO} {vi : Nat → Nat → Int32} {vl : Nat → Nat → Int64} {v0 : Nat} {x1 x2 x3 : Int32} (k1 : post (some (.int (0 : Int32))) (mk vi vl)) : wp X (d + 1) k_C_isBrokenIn 0 0 106 [some (.ref v0), some (.int x1), some (.int x2), some (.int x3)] [] (mk vi vl) post :=
  wr_iconst (n := 0) (v := (0 : Int32)) (by decide +kernel) (by decide) <|
  wr_ret (r := some (.int (0 : Int32))) (Or.inr (Or.inl ⟨_, rfl, (by decide +kernel), (Or.inr ⟨rfl, (by decide)⟩)⟩)) k1
theorem b_C_isOfKind_0 {X : aX} {d : Nat} {post : aO} {vi : Nat → Nat → Int32} {vl : Nat → Nat → Int64} {v0 : Nat} {x1 x2 : Int32} (hv0 : isCl v0) (q1 : vp_in x1 8) (k1 : (vi (v0 + 3) x1.toNatClampNeg) = x2 → wp X (d + 1) k_C_isOfKind 0 0 24 [some (.ref v0), some (.int x1), some (.int x2)] [] (mk vi vl) post) (k2 : ¬ (vi (v0 + 3) x1.toNatClampNeg) = x2 → wp X (d + 1) k_C_isOfKind 0 0 10 [some (.ref v0), some (.int x1), some (.int x2)] [] (mk vi vl) post) : wp X (d + 1) k_C_isOfKind 0 0 0 [some (.ref v0), some (.int x1), some (.int x2)] [] (mk vi vl) post :=
  wr_aload_n (q := 0) (by decide +kernel) rfl rfl <|
  wr_getR2 (b := v0 + 3) (ci := 0) (k0 := 4) (idx := 25) (cl_lt0 hv0) (cl_s0 hv0) (by decide) (by decide) lf_C_25 rfl (cl_v4 hv0) (cl_lt hv0 3 (by decide)) (by decide +kernel) <|
  wr_iload_n (q := 1) (by decide +kernel) rfl rfl <|
  wr_iald (cl_lt hv0 3 (by decide)) (cl_s3 hv0) q1 (by decide +kernel) <|
  wr_iload_n (q := 2) (by decide +kernel) rfl rfl <|
  wr_icmp_eq (off := 17) (t := 24) (by decide +kernel) (by decide) k1 k2
theorem b_C_isOfKind_10 {X : aX} {d : Nat} {post : aO} {vi : Nat → Nat → Int32} {vl : Nat → Nat → Int64} {v0 : Nat} {x1 x2 : Int32} (hv0 : isCl v0) (q1 : vp_in x1 8) (q2 : vp_in (vi (v0 + 3) x1.toNatClampNeg) 6) (k1 : ¬ (am_par (vi (v0 + 3) x1.toNatClampNeg).toNatClampNeg) = x2 → wp X (d + 1) k_C_isOfKind 0 0 28 [some (.ref v0), some (.int x1), some (.int x2)] [] (mk vi vl) post) (k2 : (am_par (vi (v0 + 3) x1.toNatClampNeg).toNatClampNeg) = x2 → wp X (d + 1) k_C_isOfKind 0 0 24 [some (.ref v0), some (.int x1), some (.int x2)] [] (mk vi vl) post) : wp X (d + 1) k_C_isOfKind 0 0 10 [some (.ref v0), some (.int x1), some (.int x2)] [] (mk vi vl) post :=
  wr_gPar rfl (by decide +kernel) <|
  wr_aload_n (q := 0) (by decide +kernel) rfl rfl <|
  wr_getR2 (b := v0 + 3) (ci := 0) (k0 := 4) (idx := 25) (cl_lt0 hv0) (cl_s0 hv0) (by decide) (by decide) lf_C_25 rfl (cl_v4 hv0) (cl_lt hv0 3 (by decide)) (by decide +kernel) <|
  wr_iload_n (q := 1) (by decide +kernel) rfl rfl <|
  wr_iald (cl_lt hv0 3 (by decide)) (cl_s3 hv0) q1 (by decide +kernel) <|
  wr_ti q2 (by decide +kernel) <|
  wr_iload_n (q := 2) (by decide +kernel) rfl rfl <|
  wr_icmp_ne (off := 7) (t := 28) (by decide +kernel) (by decide) k1 k2
theorem b_C_isOfKind_24 {X : aX} {d : Nat} {post : aO} {vi : Nat → Nat → Int32} {vl : Nat → Nat → Int64} {v0 : Nat} {x1 x2 : Int32} (k1 : wp X (d + 1) k_C_isOfKind 0 0 29 [some (.ref v0), some (.int x1), some (.int x2)] [.int (1 : Int32)] (mk vi vl) post) : wp X (d + 1) k_C_isOfKind 0 0 24 [some (.ref v0), some (.int x1), some (.int x2)] [] (mk vi vl) post :=
  wr_iconst (n := 1) (v := (1 : Int32)) (by decide +kernel) (by decide) <|
  wr_goto (off := 4) (t := 29) (by decide +kernel) (by decide) k1
theorem b_C_isOfKind_28 {X : aX} {d : Nat} {post : aO} {vi : Nat → Nat → Int32} {vl : Nat → Nat → Int64} {v0 : Nat} {x1 x2 : Int32} (k1 : wp X (d + 1) k_C_isOfKind 0 0 29 [some (.ref v0), some (.int x1), some (.int x2)] [.int (0 : Int32)] (mk vi vl) post) : wp X (d + 1) k_C_isOfKind 0 0 28 [some (.ref v0), some (.int x1), some (.int x2)] [] (mk vi vl) post :=
  wr_iconst (n := 0) (v := (0 : Int32)) (by decide +kernel) (by decide) <|
  k1
theorem b_C_isOfKind_29 {X : aX} {d : Nat} {post : aO} {vi : Nat → Nat → Int32} {vl : Nat → Nat → Int64} {v0 : Nat} {x1 x2 y0 : Int32} (q1 : y0 = 0 ∨ y0 = 1) (k1 : post (some (.int y0)) (mk vi vl)) : wp X (d + 1) k_C_isOfKind 0 0 29 [some (.ref v0), some (.int x1), some (.int x2)] [.int y0] (mk vi vl) post :=
  wr_ret (r := some (.int y0)) (Or.inr (Or.inl ⟨_, rfl, (by decide +kernel), (Or.inr ⟨rfl, q1⟩)⟩)) k1
theorem b_C_yearsWith_0 {X : aX} {d : Nat} {post : aO} {vi : Nat → Nat → Int32} {vl : Nat → Nat → Int64} {v0 : Nat} {x1 : Int32} (k1 : wp X (d + 1) k_C_yearsWith 0 0 4 [some (.ref v0), some (.int x1), some (.int (0 : Int32)), some (.int (0 : Int32))] [] (mk vi vl) post) : wp X (d + 1) k_C_yearsWith 0 0 0 [some (.ref v0), some (.int x1), none, none] [] (mk vi vl) post :=
  wr_iconst (n := 0) (v := (0 : Int32)) (by decide +kernel) (by decide) <|
  wr_istore_n (q := 2) (by decide +kernel) rfl (by decide) <|
  wr_iconst (n := 0) (v := (0 : Int32)) (by decide +kernel) (by decide) <|
  wr_istore_n (q := 3) (by decide +kernel) rfl (by decide) <|
  k1
theorem b_C_yearsWith_4 {X : aX} {d : Nat} {post : aO} {vi : Nat → Nat → Int32} {vl : Nat → Nat → Int64} {v0 : Nat} {x1 x2 x3 : Int32} (hv0 : isCl v0) (k1 : (vi v0 0) ≤ x3 → wp X (d + 1) k_C_yearsWith 0 0 38 [some (.ref v0), some (.int x1), some (.int x2), some (.int x3)] [] (mk vi vl) post) (k2 : ¬ (vi v0 0) ≤ x3 → wp X (d + 1) k_C_yearsWith 0 0 12 [some (.ref v0), some (.int x1), some (.int x2), some (.int x3)] [] (mk vi vl) post) : wp X (d + 1) k_C_yearsWith 0 0 4 [some (.ref v0), some (.int x1), some (.int x2), some (.int x3)] [] (mk vi vl) post :=
  wr_iload_n (q := 3) (by decide +kernel) rfl rfl <|
  wr_aload_n (q := 0) (by decide +kernel) rfl rfl <|
  wr_getI (ci := 0) (k0 := 0) (idx := 9) (cl_lt0 hv0) (cl_s0 hv0) (by decide) (by decide) lf_C_9 (Or.inl rfl) (by decide +kernel) <|
  wr_icmp_ge (off := 29) (t := 38) (by decide +kernel) (by decide) k1 k2
theorem b_C_yearsWith_12 {X : aX} {d : Nat} {post : aO} {vi : Nat → Nat → Int32} {vl : Nat → Nat → Int64} {v0 : Nat} {x1 x2 x3 : Int32} (hv0 : isCl v0) (q1 : vp_in x3 5) (k1 : ¬ (vi (v0 + 9) x3.toNatClampNeg) = x1 → wp X (d + 1) k_C_yearsWith 0 0 29 [some (.ref v0), some (.int x1), some (.int x2), some (.int x3)] [.int x2] (mk vi vl) post) (k2 : (vi (v0 + 9) x3.toNatClampNeg) = x1 → wp X (d + 1) k_C_yearsWith 0 0 23 [some (.ref v0), some (.int x1), some (.int x2), some (.int x3)] [.int x2] (mk vi vl) post) : wp X (d + 1) k_C_yearsWith 0 0 12 [some (.ref v0), some (.int x1), some (.int x2), some (.int x3)] [] (mk vi vl) post :=
  wr_iload_n (q := 2) (by decide +kernel) rfl rfl <|
  wr_aload_n (q := 0) (by decide +kernel) rfl rfl <|
  wr_getR2 (b := v0 + 9) (ci := 0) (k0 := 11) (idx := 46) (cl_lt0 hv0) (cl_s0 hv0) (by decide) (by decide) lf_C_46 rfl (cl_v11 hv0) (cl_lt hv0 9 (by decide)) (by decide +kernel) <|
  wr_iload_n (q := 3) (by decide +kernel) rfl rfl <|
  wr_iald (cl_lt hv0 9 (by decide)) (cl_s9 hv0) q1 (by decide +kernel) <|
  wr_iload_n (q := 1) (by decide +kernel) rfl rfl <|
  wr_icmp_ne (off := 9) (t := 29) (by decide +kernel) (by decide) k1 k2
theorem b_C_yearsWith_23 {X : aX} {d : Nat} {post : aO} {vi : Nat → Nat → Int32} {vl : Nat → Nat → Int64} {v0 : Nat} {x1 x2 x3 y0 : Int32} (k1 : wp X (d + 1) k_C_yearsWith 0 0 30 [some (.ref v0), some (.int x1), some (.int x2), some (.int x3)] [.int ((1 : Int32) <<< (x3 &&& 31)), .int y0] (mk vi vl) post) : wp X (d + 1) k_C_yearsWith 0 0 23 [some (.ref v0), some (.int x1), some (.int x2), some (.int x3)] [.int y0] (mk vi vl) post :=
  wr_iconst (n := 1) (v := (1 : Int32)) (by decide +kernel) (by decide) <|
  wr_iload_n (q := 3) (by decide +kernel) rfl rfl <|
  wr_ishl (by decide +kernel) <|
  wr_goto (off := 4) (t := 30) (by decide +kernel) (by decide) k1
theorem b_C_yearsWith_29 {X : aX} {d : Nat} {post : aO} {vi : Nat → Nat → Int32} {vl : Nat → Nat → Int64} {v0 : Nat} {x1 x2 x3 y0 : Int32} (k1 : wp X (d + 1) k_C_yearsWith 0 0 30 [some (.ref v0), some (.int x1), some (.int x2), some (.int x3)] [.int (0 : Int32), .int y0] (mk vi vl) post) : wp X (d + 1) k_C_yearsWith 0 0 29 [some (.ref v0), some (.int x1), some (.int x2), some (.int x3)] [.int y0] (mk vi vl) post :=
  wr_iconst (n := 0) (v := (0 : Int32)) (by decide +kernel) (by decide) <|
  k1
theorem b_C_yearsWith_30 {X : aX} {d : Nat} {post : aO} {vi : Nat → Nat → Int32} {vl : Nat → Nat → Int64} {v0 : Nat} {x1 x2 x3 y0 y1 : Int32} (k1 : wp X (d + 1) k_C_yearsWith 0 0 4 [some (.ref v0), some (.int x1), some (.int (y0 ||| y1)), some (.int (x3 + (1 : Int32)))] [] (mk vi vl) post) : wp X (d + 1) k_C_yearsWith 0 0 30 [some (.ref v0), some (.int x1), some (.int x2), some (.int x3)] [.int y1, .int y0] (mk vi vl) post :=
  wr_ior (by decide +kernel) <|
  wr_istore_n (q := 2) (by decide +kernel) rfl (by decide) <|
  wr_iinc (i := 3) (n := 1) (v := (1 : Int32)) (by decide +kernel) rfl (by decide) (by decide) <|
  wr_goto (off := -31) (t := 4) (by decide +kernel) (by decide) k1
theorem b_C_yearsWith_38 {X : aX} {d : Nat} {post : aO} {vi : Nat → Nat → Int32} {vl : Nat → Nat → Int64} {v0 : Nat} {x1 x2 x3 : Int32} (k1 : post (some (.int x2)) (mk vi vl)) : wp X (d + 1) k_C_yearsWith 0 0 38 [some (.ref v0), some (.int x1), some (.int x2), some (.int x3)] [] (mk vi vl) post :=
  wr_iload_n (q := 2) (by decide +kernel) rfl rfl <|
  wr_ret (r := some (.int x2)) (Or.inr (Or.inl ⟨_, rfl, (by decide +kernel), (Or.inl rfl)⟩)) k1
theorem b_C_yearsThatAre_0 {X : aX} {d : Nat} {post : aO} {vi : Nat → Nat → Int32} {vl : Nat → Nat → Int64} {v0 : Nat} {x1 : Int32} (k1 : wp X (d + 1) k_C_yearsThatAre 0 0 4 [some (.ref v0), some (.int x1), some (.int (0 : Int32)), some (.int (0 : Int32))] [] (mk vi vl) post) : wp X (d + 1) k_C_yearsThatAre 0 0 0 [some (.ref v0), some (.int x1), none, none] [] (mk vi vl) post :=
  wr_iconst (n := 0) (v := (0 : Int32)) (by decide +kernel) (by decide) <|
  wr_istore_n (q := 2) (by decide +kernel) rfl (by decide) <|
  wr_iconst (n := 0) (v := (0 : Int32)) (by decide +kernel) (by decide) <|
  wr_istore_n (q := 3) (by decide +kernel) rfl (by decide) <|
  k1
theorem b_C_yearsThatAre_4 {X : aX} {d : Nat} {post : aO} {vi : Nat → Nat → Int32} {vl : Nat → Nat → Int64} {v0 : Nat} {x1 x2 x3 : Int32} (hv0 : isCl v0) (k1 : (vi v0 0) ≤ x3 → wp X (d + 1) k_C_yearsThatAre 0 0 38 [some (.ref v0), some (.int x1), some (.int x2), some (.int x3)] [] (mk vi vl) post) (k2 : ¬ (vi v0 0) ≤ x3 → wp X (d + 1) k_C_yearsThatAre 0 0 12 [some (.ref v0), some (.int x1), some (.int x2), some (.int x3)] [] (mk vi vl) post) : wp X (d + 1) k_C_yearsThatAre 0 0 4 [some (.ref v0), some (.int x1), some (.int x2), some (.int x3)] [] (mk vi vl) post :=
  wr_iload_n (q := 3) (by decide +kernel) rfl rfl <|
  wr_aload_n (q := 0) (by decide +kernel) rfl rfl <|
  wr_getI (ci := 0) (k0 := 0) (idx := 9) (cl_lt0 hv0) (cl_s0 hv0) (by decide) (by decide) lf_C_9 (Or.inl rfl) (by decide +kernel) <|
  wr_icmp_ge (off := 29) (t := 38) (by decide +kernel) (by decide) k1 k2
theorem b_C_yearsThatAre_12 {X : aX} {d : Nat} {post : aO} {vi : Nat → Nat → Int32} {vl : Nat → Nat → Int64} {v0 : Nat} {x1 x2 x3 : Int32} (hv0 : isCl v0) (q1 : vp_in x3 5) (k1 : ¬ (vi (v0 + 1) x3.toNatClampNeg) = x1 → wp X (d + 1) k_C_yearsThatAre 0 0 29 [some (.ref v0), some (.int x1), some (.int x2), some (.int x3)] [.int x2] (mk vi vl) post) (k2 : (vi (v0 + 1) x3.toNatClampNeg) = x1 → wp X (d + 1) k_C_yearsThatAre 0 0 23 [some (.ref v0), some (.int x1), some (.int x2), some (.int x3)] [.int x2] (mk vi vl) post) : wp X (d + 1) k_C_yearsThatAre 0 0 12 [some (.ref v0), some (.int x1), some (.int x2), some (.int x3)] [] (mk vi vl) post :=
  wr_iload_n (q := 2) (by decide +kernel) rfl rfl <|
  wr_aload_n (q := 0) (by decide +kernel) rfl rfl <|
  wr_getR2 (b := v0 + 1) (ci := 0) (k0 := 1) (idx := 15) (cl_lt0 hv0) (cl_s0 hv0) (by decide) (by decide) lf_C_15 rfl (cl_v1 hv0) (cl_lt hv0 1 (by decide)) (by decide +kernel) <|
  wr_iload_n (q := 3) (by decide +kernel) rfl rfl <|
  wr_iald (cl_lt hv0 1 (by decide)) (cl_s1 hv0) q1 (by decide +kernel) <|
  wr_iload_n (q := 1) (by decide +kernel) rfl rfl <|
  wr_icmp_ne (off := 9) (t := 29) (by decide +kernel) (by decide) k1 k2
theorem b_C_yearsThatAre_23 {X : aX} {d : Nat} {post : aO} {vi : Nat → Nat → Int32} {vl : Nat → Nat → Int64} {v0 : Nat} {x1 x2 x3 y0 : Int32} (k1 : wp X (d + 1) k_C_yearsThatAre 0 0 30 [some (.ref v0), some (.int x1), some (.int x2), some (.int x3)] [.int ((1 : Int32) <<< (x3 &&& 31)), .int y0] (mk vi vl) post) : wp X (d + 1) k_C_yearsThatAre 0 0 23 [some (.ref v0), some (.int x1), some (.int x2), some (.int x3)] [.int y0] (mk vi vl) post :=
  wr_iconst (n := 1) (v := (1 : Int32)) (by decide +kernel) (by decide) <|
  wr_iload_n (q := 3) (by decide +kernel) rfl rfl <|
  wr_ishl (by decide +kernel) <|
  wr_goto (off := 4) (t := 30) (by decide +kernel) (by decide) k1
theorem b_C_yearsThatAre_29 {X : aX} {d : Nat} {post : aO} {vi : Nat → Nat → Int32} {vl : Nat → Nat → Int64} {v0 : Nat} {x1 x2 x3 y0 : Int32} (k1 : wp X (d + 1) k_C_yearsThatAre 0 0 30 [some (.ref v0), some (.int x1), some (.int x2), some (.int x3)] [.int (0 : Int32), .int y0] (mk vi vl) post) : wp X (d + 1) k_C_yearsThatAre 0 0 29 [some (.ref v0), some (.int x1), some (.int x2), some (.int x3)] [.int y0] (mk vi vl) post :=
  wr_iconst (n := 0) (v := (0 : Int32)) (by decide +kernel) (by decide) <|
  k1
theorem b_C_yearsThatAre_30 {X : aX} {d : Nat} {post : aO} {vi : Nat → Nat → Int32} {vl : Nat → Nat → Int64} {v0 : Nat} {x1 x2 x3 y0 y1 : Int32} (k1 : wp X (d + 1) k_C_yearsThatAre 0 0 4 [some (.ref v0), some (.int x1), some (.int (y0 ||| y1)), some (.int (x3 + (1 : Int32)))] [] (mk vi vl) post) : wp X (d + 1) k_C_yearsThatAre 0 0 30 [some (.ref v0), some (.int x1), some (.int x2), some (.int x3)] [.int y1, .int y0] (mk vi vl) post :=
  wr_ior (by decide +kernel) <|
  wr_istore_n (q := 2) (by decide +kernel) rfl (by decide) <|
  wr_iinc (i := 3) (n := 1) (v := (1 : Int32)) (by decide +kernel) rfl (by decide) (by decide) <|
  wr_goto (off := -31) (t := 4) (by decide +kernel) (by decide) k1
theorem b_C_yearsThatAre_38 {X : aX} {d : Nat} {post : aO} {vi : Nat → Nat → Int32} {vl : Nat → Nat → Int64} {v0 : Nat} {x1 x2 x3 : Int32} (k1 : post (some (.int x2)) (mk vi vl)) : wp X (d + 1) k_C_yearsThatAre 0 0 38 [some (.ref v0), some (.int x1), some (.int x2), some (.int x3)] [] (mk vi vl) post :=
  wr_iload_n (q := 2) (by decide +kernel) rfl rfl <|
  wr_ret (r := some (.int x2)) (Or.inr (Or.inl ⟨_, rfl, (by decide +kernel), (Or.inl rfl)⟩)) k1
theorem b_C_allows_0 {X : aX} {d : Nat} {post : aO} {vi : Nat → Nat → Int32} {vl : Nat → Nat → Int64} {v0 : Nat} {x1 x2 : Int32} (k1 : ¬ x2 = (6 : Int32) → wp X (d + 1) k_C_allows 0 0 8 [some (.ref v0), some (.int x1), some (.int x2)] [] (mk vi vl) post) (k2 : x2 = (6 : Int32) → wp X (d + 1) k_C_allows 0 0 6 [some (.ref v0), some (.int x1), some (.int x2)] [] (mk vi vl) post) : wp X (d + 1) k_C_allows 0 0 0 [some (.ref v0), some (.int x1), some (.int x2)] [] (mk vi vl) post :=
  wr_iload_n (q := 2) (by decide +kernel) rfl rfl <|
  wr_bipush (n := 6) (v := (6 : Int32)) (by decide +kernel) (by decide) <|
  wr_icmp_ne (off := 5) (t := 8) (by decide +kernel) (by decide) k1 k2
theorem b_C_allows_6 {X : aX} {d : Nat} {post : aO} {vi : Nat → Nat → Int32} {vl : Nat → Nat → Int64} {v0 : Nat} {x1 x2 : Int32} (k1 : post (some (.int (1 : Int32))) (mk vi vl)) : wp X (d + 1) k_C_allows 0 0 6 [some (.ref v0), some (.int x1), some (.int x2)] [] (mk vi vl) post :=
  wr_iconst (n := 1) (v := (1 : Int32)) (by decide +kernel) (by decide) <|
  wr_ret (r := some (.int (1 : Int32))) (Or.inr (Or.inl ⟨_, rfl, (by decide +kernel), (Or.inr ⟨rfl, (by decide)⟩)⟩)) k1
theorem b_C_allows_8 {X : aX} {d : Nat} {post : aO} {vi : Nat → Nat → Int32} {vl : Nat → Nat → Int64} {v0 : Nat} {x1 x2 : Int32} (hv0 : isCl v0) (q1 : vp_in x1 5) (k1 : ¬ (vi (v0 + 1) x1.toNatClampNeg) = (1 : Int32) → wp X (d + 1) k_C_allows 0 0 31 [some (.ref v0), some (.int x1), some (.int x2)] [] (mk vi vl) post) (k2 : (vi (v0 + 1) x1.toNatClampNeg) = (1 : Int32) → wp X (d + 1) k_C_allows 0 0 18 [some (.ref v0), some (.int x1), some (.int x2)] [] (mk vi vl) post) : wp X (d + 1) k_C_allows 0 0 8 [some (.ref v0), some (.int x1), some (.int x2)] [] (mk vi vl) post :=
  wr_aload_n (q := 0) (by decide +kernel) rfl rfl <|
  wr_getR2 (b := v0 + 1) (ci := 0) (k0 := 1) (idx := 15) (cl_lt0 hv0) (cl_s0 hv0) (by decide) (by decide) lf_C_15 rfl (cl_v1 hv0) (cl_lt hv0 1 (by decide)) (by decide +kernel) <|
  wr_iload_n (q := 1) (by decide +kernel) rfl rfl <|
  wr_iald (cl_lt hv0 1 (by decide)) (cl_s1 hv0) q1 (by decide +kernel) <|
  wr_iconst (n := 1) (v := (1 : Int32)) (by decide +kernel) (by decide) <|
  wr_icmp_ne (off := 16) (t := 31) (by decide +kernel) (by decide) k1 k2
theorem b_C_allows_18 {X : aX} {d : Nat} {post : aO} {vi : Nat → Nat → Int32} {vl : Nat → Nat → Int64} {v0 : Nat} {x1 x2 : Int32} (k1 : ¬ x2 = (5 : Int32) → wp X (d + 1) k_C_allows 0 0 27 [some (.ref v0), some (.int x1), some (.int x2)] [] (mk vi vl) post) (k2 : x2 = (5 : Int32) → wp X (d + 1) k_C_allows 0 0 23 [some (.ref v0), some (.int x1), some (.int x2)] [] (mk vi vl) post) : wp X (d + 1) k_C_allows 0 0 18 [some (.ref v0), some (.int x1), some (.int x2)] [] (mk vi vl) post :=
  wr_iload_n (q := 2) (by decide +kernel) rfl rfl <|
  wr_iconst (n := 5) (v := (5 : Int32)) (by decide +kernel) (by decide) <|
  wr_icmp_ne (off := 7) (t := 27) (by decide +kernel) (by decide) k1 k2
theorem b_C_allows_23 {X : aX} {d : Nat} {post : aO} {vi : Nat → Nat → Int32} {vl : Nat → Nat → Int64} {v0 : Nat} {x1 x2 : Int32} (k1 : wp X (d + 1) k_C_allows 0 0 35 [some (.ref v0), some (.int x1), some (.int x2)] [.int (1 : Int32)] (mk vi vl) post) : wp X (d + 1) k_C_allows 0 0 23 [some (.ref v0), some (.int x1), some (.int x2)] [] (mk vi vl) post :=
  wr_iconst (n := 1) (v := (1 : Int32)) (by decide +kernel) (by decide) <|
  wr_goto (off := 11) (t := 35) (by decide +kernel) (by decide) k1
theorem b_C_allows_27 {X : aX} {d : Nat} {post : aO} {vi : Nat → Nat → Int32} {vl : Nat → Nat → Int64} {v0 : Nat} {x1 x2 : Int32} (k1 : wp X (d + 1) k_C_allows 0 0 35 [some (.ref v0), some (.int x1), some (.int x2)] [.int (0 : Int32)] (mk vi vl) post) : wp X (d + 1) k_C_allows 0 0 27 [some (.ref v0), some (.int x1), some (.int x2)] [] (mk vi vl) post :=
  wr_iconst (n := 0) (v := (0 : Int32)) (by decide +kernel) (by decide) <|
  wr_goto (off := 7) (t := 35) (by decide +kernel) (by decide) k1
theorem b_C_allows_31 {X : aX} {d : Nat} {post : aO} {vi : Nat → Nat → Int32} {vl : Nat → Nat → Int64} {v0 : Nat} {x1 x2 : Int32} (k1 : CallOk X d 0 0 k_S_isScene [.int x2] (mk vi vl) (fun r N' => wp X (d + 1) k_C_allows 0 0 35 [some (.ref v0), some (.int x1), some (.int x2)] (pR r []) N' post)) : wp X (d + 1) k_C_allows 0 0 31 [some (.ref v0), some (.int x1), some (.int x2)] [] (mk vi vl) post :=
  wr_iload_n (q := 2) (by decide +kernel) rfl rfl <|
  wr_invSN (host := "SewnAhead") (mid2 := 31) (idx := 62) (b1 := 0) (b2 := 0) (c1 := 0) (c2 := 0) (as := [.int x2]) (st := []) pl_31 rfl (Nat.le_of_ble_eq_true rfl) rfl rfl (by decide +kernel) it_31 (by decide +kernel) k1
theorem b_C_allows_35 {X : aX} {d : Nat} {post : aO} {vi : Nat → Nat → Int32} {vl : Nat → Nat → Int64} {v0 : Nat} {x1 x2 y0 : Int32} (q1 : y0 = 0 ∨ y0 = 1) (k1 : post (some (.int y0)) (mk vi vl)) : wp X (d + 1) k_C_allows 0 0 35 [some (.ref v0), some (.int x1), some (.int x2)] [.int y0] (mk vi vl) post :=
  wr_ret (r := some (.int y0)) (Or.inr (Or.inl ⟨_, rfl, (by decide +kernel), (Or.inr ⟨rfl, q1⟩)⟩)) k1
theorem b_C_stitch_0 {X : aX} {d : Nat} {post : aO} {vi : Nat → Nat → Int32} {vl : Nat → Nat → Int64} {v0 : Nat} {x1 x2 : Int32} (hv0 : isCl v0) (k1 : (vi v0 7) < (40 : Int32) → wp X (d + 1) k_C_stitch 0 0 10 [some (.ref v0), some (.int x1), some (.int x2)] [] (mk vi vl) post) (k2 : ¬ (vi v0 7) < (40 : Int32) → wp X (d + 1) k_C_stitch 0 0 9 [some (.ref v0), some (.int x1), some (.int x2)] [] (mk vi vl) post) : wp X (d + 1) k_C_stitch 0 0 0 [some (.ref v0), some (.int x1), some (.int x2)] [] (mk vi vl) post :=
  wr_aload_n (q := 0) (by decide +kernel) rfl rfl <|
  wr_getI (ci := 0) (k0 := 7) (idx := 34) (cl_lt0 hv0) (cl_s0 hv0) (by decide) (by decide) lf_C_34 (Or.inl rfl) (by decide +kernel) <|
  wr_bipush (n := 40) (v := (40 : Int32)) (by decide +kernel) (by decide) <|
  wr_icmp_lt (off := 4) (t := 10) (by decide +kernel) (by decide) k1 k2
theorem b_C_stitch_9 {X : aX} {d : Nat} {post : aO} {vi : Nat → Nat → Int32} {vl : Nat → Nat → Int64} {v0 : Nat} {x1 x2 : Int32} (k1 : post none (mk vi vl)) : wp X (d + 1) k_C_stitch 0 0 9 [some (.ref v0), some (.int x1), some (.int x2)] [] (mk vi vl) post :=
  wr_ret (r := none) (Or.inl ⟨rfl, (by decide +kernel), rfl⟩) k1
theorem b_C_stitch_10 {X : aX} {d : Nat} {post : aO} {vi : Nat → Nat → Int32} {vl : Nat → Nat → Int64} {v0 : Nat} {x1 x2 : Int32} (hv0 : isCl v0) (q1 : vp_in (vi v0 7) 40) (k1 : ∀ w, w = up2 vi (v0 + 6) (vi v0 7).toNatClampNeg x1 → wp X (d + 1) k_C_stitch 0 0 20 [some (.ref v0), some (.int x1), some (.int x2)] [] (mk w vl) post) : wp X (d + 1) k_C_stitch 0 0 10 [some (.ref v0), some (.int x1), some (.int x2)] [] (mk vi vl) post :=
  wr_aload_n (q := 0) (by decide +kernel) rfl rfl <|
  wr_getR2 (b := v0 + 6) (ci := 0) (k0 := 8) (idx := 37) (cl_lt0 hv0) (cl_s0 hv0) (by decide) (by decide) lf_C_37 rfl (cl_v8 hv0) (cl_lt hv0 6 (by decide)) (by decide +kernel) <|
  wr_aload_n (q := 0) (by decide +kernel) rfl rfl <|
  wr_getI (ci := 0) (k0 := 7) (idx := 34) (cl_lt0 hv0) (cl_s0 hv0) (by decide) (by decide) lf_C_34 (Or.inl rfl) (by decide +kernel) <|
  wr_iload_n (q := 1) (by decide +kernel) rfl rfl <|
  wr_iast (cl_lt hv0 6 (by decide)) (cl_s6 hv0) q1 (by decide +kernel) <|
  k1 _ rfl
theorem b_C_stitch_20 {X : aX} {d : Nat} {post : aO} {vi : Nat → Nat → Int32} {vl : Nat → Nat → Int64} {v0 : Nat} {x1 x2 : Int32} (hv0 : isCl v0) (q1 : vp_in x1 5) (q2 : vp_in (vi v0 7) 40) (k1 : ∀ w, w = up2 vi (v0 + 7) (vi v0 7).toNatClampNeg (vi (v0 + 1) x1.toNatClampNeg) → wp X (d + 1) k_C_stitch 0 0 35 [some (.ref v0), some (.int x1), some (.int x2)] [] (mk w vl) post) : wp X (d + 1) k_C_stitch 0 0 20 [some (.ref v0), some (.int x1), some (.int x2)] [] (mk vi vl) post :=
  wr_aload_n (q := 0) (by decide +kernel) rfl rfl <|
  wr_getR2 (b := v0 + 7) (ci := 0) (k0 := 9) (idx := 40) (cl_lt0 hv0) (cl_s0 hv0) (by decide) (by decide) lf_C_40 rfl (cl_v9 hv0) (cl_lt hv0 7 (by decide)) (by decide +kernel) <|
  wr_aload_n (q := 0) (by decide +kernel) rfl rfl <|
  wr_getI (ci := 0) (k0 := 7) (idx := 34) (cl_lt0 hv0) (cl_s0 hv0) (by decide) (by decide) lf_C_34 (Or.inl rfl) (by decide +kernel) <|
  wr_aload_n (q := 0) (by decide +kernel) rfl rfl <|
  wr_getR2 (b := v0 + 1) (ci := 0) (k0 := 1) (idx := 15) (cl_lt0 hv0) (cl_s0 hv0) (by decide) (by decide) lf_C_15 rfl (cl_v1 hv0) (cl_lt hv0 1 (by decide)) (by decide +kernel) <|
  wr_iload_n (q := 1) (by decide +kernel) rfl rfl <|
  wr_iald (cl_lt hv0 1 (by decide)) (cl_s1 hv0) q1 (by decide +kernel) <|
  wr_iast (cl_lt hv0 7 (by decide)) (cl_s7 hv0) q2 (by decide +kernel) <|
  k1 _ rfl
theorem b_C_stitch_35 {X : aX} {d : Nat} {post : aO} {vi : Nat → Nat → Int32} {vl : Nat → Nat → Int64} {v0 : Nat} {x1 x2 : Int32} (hv0 : isCl v0) (q1 : vp_in x1 5) (q2 : vp_in (vi v0 7) 40) (k1 : ∀ w, w = up2 vi (v0 + 8) (vi v0 7).toNatClampNeg (vi (v0 + 2) x1.toNatClampNeg) → wp X (d + 1) k_C_stitch 0 0 50 [some (.ref v0), some (.int x1), some (.int x2)] [] (mk w vl) post) : wp X (d + 1) k_C_stitch 0 0 35 [some (.ref v0), some (.int x1), some (.int x2)] [] (mk vi vl) post :=
  wr_aload_n (q := 0) (by decide +kernel) rfl rfl <|
  wr_getR2 (b := v0 + 8) (ci := 0) (k0 := 10) (idx := 43) (cl_lt0 hv0) (cl_s0 hv0) (by decide) (by decide) lf_C_43 rfl (cl_v10 hv0) (cl_lt hv0 8 (by decide)) (by decide +kernel) <|
  wr_aload_n (q := 0) (by decide +kernel) rfl rfl <|
  wr_getI (ci := 0) (k0 := 7) (idx := 34) (cl_lt0 hv0) (cl_s0 hv0) (by decide) (by decide) lf_C_34 (Or.inl rfl) (by decide +kernel) <|
  wr_aload_n (q := 0) (by decide +kernel) rfl rfl <|
  wr_getR2 (b := v0 + 2) (ci := 0) (k0 := 2) (idx := 19) (cl_lt0 hv0) (cl_s0 hv0) (by decide) (by decide) lf_C_19 rfl (cl_v2 hv0) (cl_lt hv0 2 (by decide)) (by decide +kernel) <|
  wr_iload_n (q := 1) (by decide +kernel) rfl rfl <|
  wr_iald (cl_lt hv0 2 (by decide)) (cl_s2 hv0) q1 (by decide +kernel) <|
  wr_iast (cl_lt hv0 8 (by decide)) (cl_s8 hv0) q2 (by decide +kernel) <|
  k1 _ rfl
theorem b_C_stitch_50 {X : aX} {d : Nat} {post : aO} {vi : Nat → Nat → Int32} {vl : Nat → Nat → Int64} {v0 : Nat} {x1 x2 : Int32} (hv0 : isCl v0) (k1 : ∀ w, w = up2 vi v0 7 ((vi v0 7) + (1 : Int32)) → wp X (d + 1) k_C_stitch 0 0 60 [some (.ref v0), some (.int x1), some (.int x2)] [] (mk w vl) post) : wp X (d + 1) k_C_stitch 0 0 50 [some (.ref v0), some (.int x1), some (.int x2)] [] (mk vi vl) post :=
  wr_aload_n (q := 0) (by decide +kernel) rfl rfl <|
  wr_dup (by decide +kernel) rfl <|
  wr_getI (ci := 0) (k0 := 7) (idx := 34) (cl_lt0 hv0) (cl_s0 hv0) (by decide) (by decide) lf_C_34 (Or.inl rfl) (by decide +kernel) <|
  wr_iconst (n := 1) (v := (1 : Int32)) (by decide +kernel) (by decide) <|
  wr_iadd (by decide +kernel) <|
  wr_putI (ci := 0) (k0 := 7) (idx := 34) (cl_lt0 hv0) (cl_s0 hv0) (by decide) (by decide) lf_C_34 rfl (by decide +kernel) <|
  k1 _ rfl
theorem b_C_stitch_60 {X : aX} {d : Nat} {post : aO} {vi : Nat → Nat → Int32} {vl : Nat → Nat → Int64} {v0 : Nat} {x1 x2 : Int32} (k1 : CallOk X d 0 0 k_C_change [.ref v0, .int x1, .int x2] (mk vi vl) (fun r N' => wp X (d + 1) k_C_stitch 0 0 66 [some (.ref v0), some (.int x1), some (.int x2)] (pR r []) N' post)) (hv0 : isCl v0) : wp X (d + 1) k_C_stitch 0 0 60 [some (.ref v0), some (.int x1), some (.int x2)] [] (mk vi vl) post :=
  wr_aload_n (q := 0) (by decide +kernel) rfl rfl <|
  wr_iload_n (q := 1) (by decide +kernel) rfl rfl <|
  wr_iload_n (q := 2) (by decide +kernel) rfl rfl <|
  wr_invV (a := v0) (ci := 0) (mid2 := 62) (idx := 66) (b1 := 0) (b2 := 0) (c1 := 0) (c2 := 0) (as := [.int x1, .int x2]) (st := []) pl_62 rfl (Nat.le_of_ble_eq_true rfl) rfl rfl (cl_lt0 hv0) (cl_s0 hv0) (by decide) rfl lm_C_66 im_62 is_62 (by decide +kernel) k1
theorem b_C_stitch_66 {X : aX} {d : Nat} {post : aO} {vi : Nat → Nat → Int32} {vl : Nat → Nat → Int64} {v0 : Nat} {x1 x2 : Int32} (k1 : CallOk X d 0 0 k_C_settleFrom [.ref v0, .int x1] (mk vi vl) (fun r N' => wp X (d + 1) k_C_stitch 0 0 71 [some (.ref v0), some (.int x1), some (.int x2)] (pR r []) N' post)) (hv0 : isCl v0) : wp X (d + 1) k_C_stitch 0 0 66 [some (.ref v0), some (.int x1), some (.int x2)] [] (mk vi vl) post :=
  wr_aload_n (q := 0) (by decide +kernel) rfl rfl <|
  wr_iload_n (q := 1) (by decide +kernel) rfl rfl <|
  wr_invV (a := v0) (ci := 0) (mid2 := 39) (idx := 70) (b1 := 0) (b2 := 0) (c1 := 0) (c2 := 0) (as := [.int x1]) (st := []) pl_39 rfl (Nat.le_of_ble_eq_true rfl) rfl rfl (cl_lt0 hv0) (cl_s0 hv0) (by decide) rfl lm_C_70 im_39 is_39 (by decide +kernel) k1
theorem b_C_stitch_71 {X : aX} {d : Nat} {post : aO} {vi : Nat → Nat → Int32} {vl : Nat → Nat → Int64} {v0 : Nat} {x1 x2 : Int32} (k1 : post none (mk vi vl)) : wp X (d + 1) k_C_stitch 0 0 71 [some (.ref v0), some (.int x1), some (.int x2)] [] (mk vi vl) post :=
  wr_ret (r := none) (Or.inl ⟨rfl, (by decide +kernel), rfl⟩) k1
theorem b_C_change_0 {X : aX} {d : Nat} {post : aO} {vi : Nat → Nat → Int32} {vl : Nat → Nat → Int64} {v0 : Nat} {x1 x2 : Int32} (k1 : ¬ x2 = (5 : Int32) → wp X (d + 1) k_C_change 0 0 15 [some (.ref v0), some (.int x1), some (.int x2)] [] (mk vi vl) post) (k2 : x2 = (5 : Int32) → wp X (d + 1) k_C_change 0 0 5 [some (.ref v0), some (.int x1), some (.int x2)] [] (mk vi vl) post) : wp X (d + 1) k_C_change 0 0 0 [some (.ref v0), some (.int x1), some (.int x2)] [] (mk vi vl) post :=
  wr_iload_n (q := 2) (by decide +kernel) rfl rfl <|
  wr_iconst (n := 5) (v := (5 : Int32)) (by decide +kernel) (by decide) <|
  wr_icmp_ne (off := 13) (t := 15) (by decide +kernel) (by decide) k1 k2
theorem b_C_change_5 {X : aX} {d : Nat} {post : aO} {vi : Nat → Nat → Int32} {vl : Nat → Nat → Int64} {v0 : Nat} {x1 x2 : Int32} (hv0 : isCl v0) (q1 : vp_in x1 5) (k1 : ∀ w, w = up2 vi (v0 + 1) x1.toNatClampNeg (2 : Int32) → wp X (d + 1) k_C_change 0 0 12 [some (.ref v0), some (.int x1), some (.int x2)] [] (mk w vl) post) : wp X (d + 1) k_C_change 0 0 5 [some (.ref v0), some (.int x1), some (.int x2)] [] (mk vi vl) post :=
  wr_aload_n (q := 0) (by decide +kernel) rfl rfl <|
  wr_getR2 (b := v0 + 1) (ci := 0) (k0 := 1) (idx := 15) (cl_lt0 hv0) (cl_s0 hv0) (by decide) (by decide) lf_C_15 rfl (cl_v1 hv0) (cl_lt hv0 1 (by decide)) (by decide +kernel) <|
  wr_iload_n (q := 1) (by decide +kernel) rfl rfl <|
  wr_iconst (n := 2) (v := (2 : Int32)) (by decide +kernel) (by decide) <|
  wr_iast (cl_lt hv0 1 (by decide)) (cl_s1 hv0) q1 (by decide +kernel) <|
  k1 _ rfl
theorem b_C_change_12 {X : aX} {d : Nat} {post : aO} {vi : Nat → Nat → Int32} {vl : Nat → Nat → Int64} {v0 : Nat} {x1 x2 : Int32} (k1 : wp X (d + 1) k_C_change 0 0 28 [some (.ref v0), some (.int x1), some (.int x2)] [] (mk vi vl) post) : wp X (d + 1) k_C_change 0 0 12 [some (.ref v0), some (.int x1), some (.int x2)] [] (mk vi vl) post :=
  wr_goto (off := 16) (t := 28) (by decide +kernel) (by decide) k1
theorem b_C_change_15 {X : aX} {d : Nat} {post : aO} {vi : Nat → Nat → Int32} {vl : Nat → Nat → Int64} {v0 : Nat} {x1 x2 : Int32} (k1 : x2 = (6 : Int32) → wp X (d + 1) k_C_change 0 0 28 [some (.ref v0), some (.int x1), some (.int x2)] [] (mk vi vl) post) (k2 : ¬ x2 = (6 : Int32) → wp X (d + 1) k_C_change 0 0 21 [some (.ref v0), some (.int x1), some (.int x2)] [] (mk vi vl) post) : wp X (d + 1) k_C_change 0 0 15 [some (.ref v0), some (.int x1), some (.int x2)] [] (mk vi vl) post :=
  wr_iload_n (q := 2) (by decide +kernel) rfl rfl <|
  wr_bipush (n := 6) (v := (6 : Int32)) (by decide +kernel) (by decide) <|
  wr_icmp_eq (off := 10) (t := 28) (by decide +kernel) (by decide) k1 k2
theorem b_C_change_21 {X : aX} {d : Nat} {post : aO} {vi : Nat → Nat → Int32} {vl : Nat → Nat → Int64} {v0 : Nat} {x1 x2 : Int32} (k1 : CallOk X d 0 0 k_C_set [.ref v0, .int x1, .int (1 : Int32), .int x2] (mk vi vl) (fun r N' => wp X (d + 1) k_C_change 0 0 28 [some (.ref v0), some (.int x1), some (.int x2)] (pR r []) N' post)) (hv0 : isCl v0) : wp X (d + 1) k_C_change 0 0 21 [some (.ref v0), some (.int x1), some (.int x2)] [] (mk vi vl) post :=
  wr_aload_n (q := 0) (by decide +kernel) rfl rfl <|
  wr_iload_n (q := 1) (by decide +kernel) rfl rfl <|
  wr_iconst (n := 1) (v := (1 : Int32)) (by decide +kernel) (by decide) <|
  wr_iload_n (q := 2) (by decide +kernel) rfl rfl <|
  wr_invV (a := v0) (ci := 0) (mid2 := 33) (idx := 58) (b1 := 0) (b2 := 0) (c1 := 0) (c2 := 0) (as := [.int x1, .int (1 : Int32), .int x2]) (st := []) pl_33 rfl (Nat.le_of_ble_eq_true rfl) rfl rfl (cl_lt0 hv0) (cl_s0 hv0) (by decide) rfl lm_C_58 im_33 is_33 (by decide +kernel) k1
theorem b_C_change_28 {X : aX} {d : Nat} {post : aO} {vi : Nat → Nat → Int32} {vl : Nat → Nat → Int64} {v0 : Nat} {x1 x2 : Int32} (k1 : post none (mk vi vl)) : wp X (d + 1) k_C_change 0 0 28 [some (.ref v0), some (.int x1), some (.int x2)] [] (mk vi vl) post :=
  wr_ret (r := none) (Or.inl ⟨rfl, (by decide +kernel), rfl⟩) k1
theorem b_C_brokenLaws_0 {X : aX} {d : Nat} {post : aO} {vi : Nat → Nat → Int32} {vl : Nat → Nat → Int64} {v0 : Nat} (k1 : wp X (d + 1) k_C_brokenLaws 0 0 4 [some (.ref v0), some (.int (0 : Int32)), some (.int (0 : Int32))] [] (mk vi vl) post) : wp X (d + 1) k_C_brokenLaws 0 0 0 [some (.ref v0), none, none] [] (mk vi vl) post :=
  wr_iconst (n := 0) (v := (0 : Int32)) (by decide +kernel) (by decide) <|
  wr_istore_n (q := 1) (by decide +kernel) rfl (by decide) <|
  wr_iconst (n := 0) (v := (0 : Int32)) (by decide +kernel) (by decide) <|
  wr_istore_n (q := 2) (by decide +kernel) rfl (by decide) <|
  k1
theorem b_C_brokenLaws_4 {X : aX} {d : Nat} {post : aO} {vi : Nat → Nat → Int32} {vl : Nat → Nat → Int64} {v0 : Nat} {x1 x2 : Int32} (hv0 : isCl v0) (k1 : (vi v0 3) ≤ x2 → wp X (d + 1) k_C_brokenLaws 0 0 36 [some (.ref v0), some (.int x1), some (.int x2)] [] (mk vi vl) post) (k2 : ¬ (vi v0 3) ≤ x2 → wp X (d + 1) k_C_brokenLaws 0 0 12 [some (.ref v0), some (.int x1), some (.int x2)] [] (mk vi vl) post) : wp X (d + 1) k_C_brokenLaws 0 0 4 [some (.ref v0), some (.int x1), some (.int x2)] [] (mk vi vl) post :=
  wr_iload_n (q := 2) (by decide +kernel) rfl rfl <|
  wr_aload_n (q := 0) (by decide +kernel) rfl rfl <|
  wr_getI (ci := 0) (k0 := 3) (idx := 22) (cl_lt0 hv0) (cl_s0 hv0) (by decide) (by decide) lf_C_22 (Or.inl rfl) (by decide +kernel) <|
  wr_icmp_ge (off := 27) (t := 36) (by decide +kernel) (by decide) k1 k2
theorem b_C_brokenLaws_12 {X : aX} {d : Nat} {post : aO} {vi : Nat → Nat → Int32} {vl : Nat → Nat → Int64} {v0 : Nat} {x1 x2 : Int32} (k1 : CallOk X d 0 0 k_C_isBroken [.ref v0, .int x2] (mk vi vl) (fun r N' => wp X (d + 1) k_C_brokenLaws 0 0 18 [some (.ref v0), some (.int x1), some (.int x2)] (pR r [.int x1]) N' post)) (hv0 : isCl v0) : wp X (d + 1) k_C_brokenLaws 0 0 12 [some (.ref v0), some (.int x1), some (.int x2)] [] (mk vi vl) post :=
  wr_iload_n (q := 1) (by decide +kernel) rfl rfl <|
  wr_aload_n (q := 0) (by decide +kernel) rfl rfl <|
  wr_iload_n (q := 2) (by decide +kernel) rfl rfl <|
  wr_invV (a := v0) (ci := 0) (mid2 := 50) (idx := 106) (b1 := 0) (b2 := 0) (c1 := 0) (c2 := 0) (as := [.int x2]) (st := [.int x1]) pl_50 rfl (Nat.le_of_ble_eq_true rfl) rfl rfl (cl_lt0 hv0) (cl_s0 hv0) (by decide) rfl lm_C_106 im_50 is_50 (by decide +kernel) k1
theorem b_C_brokenLaws_18 {X : aX} {d : Nat} {post : aO} {vi : Nat → Nat → Int32} {vl : Nat → Nat → Int64} {v0 : Nat} {x1 x2 y0 y1 : Int32} (k1 : y1 = 0 → wp X (d + 1) k_C_brokenLaws 0 0 27 [some (.ref v0), some (.int x1), some (.int x2)] [.int y0] (mk vi vl) post) (k2 : ¬ y1 = 0 → wp X (d + 1) k_C_brokenLaws 0 0 21 [some (.ref v0), some (.int x1), some (.int x2)] [.int y0] (mk vi vl) post) : wp X (d + 1) k_C_brokenLaws 0 0 18 [some (.ref v0), some (.int x1), some (.int x2)] [.int y1, .int y0] (mk vi vl) post :=
  wr_if_eq (off := 9) (t := 27) (by decide +kernel) (by decide) k1 k2
theorem b_C_brokenLaws_21 {X : aX} {d : Nat} {post : aO} {vi : Nat → Nat → Int32} {vl : Nat → Nat → Int64} {v0 : Nat} {x1 x2 y0 : Int32} (k1 : wp X (d + 1) k_C_brokenLaws 0 0 28 [some (.ref v0), some (.int x1), some (.int x2)] [.int ((1 : Int32) <<< (x2 &&& 31)), .int y0] (mk vi vl) post) : wp X (d + 1) k_C_brokenLaws 0 0 21 [some (.ref v0), some (.int x1), some (.int x2)] [.int y0] (mk vi vl) post :=
  wr_iconst (n := 1) (v := (1 : Int32)) (by decide +kernel) (by decide) <|
  wr_iload_n (q := 2) (by decide +kernel) rfl rfl <|
  wr_ishl (by decide +kernel) <|
  wr_goto (off := 4) (t := 28) (by decide +kernel) (by decide) k1
theorem b_C_brokenLaws_27 {X : aX} {d : Nat} {post : aO} {vi : Nat → Nat → Int32} {vl : Nat → Nat → Int64} {v0 : Nat} {x1 x2 y0 : Int32} (k1 : wp X (d + 1) k_C_brokenLaws 0 0 28 [some (.ref v0), some (.int x1), some (.int x2)] [.int (0 : Int32), .int y0] (mk vi vl) post) : wp X (d + 1) k_C_brokenLaws 0 0 27 [some (.ref v0), some (.int x1), some (.int x2)] [.int y0] (mk vi vl) post :=
  wr_iconst (n := 0) (v := (0 : Int32)) (by decide +kernel) (by decide) <|
  k1
theorem b_C_brokenLaws_28 {X : aX} {d : Nat} {post : aO} {vi : Nat → Nat → Int32} {vl : Nat → Nat → Int64} {v0 : Nat} {x1 x2 y0 y1 : Int32} (k1 : wp X (d + 1) k_C_brokenLaws 0 0 4 [some (.ref v0), some (.int (y0 ||| y1)), some (.int (x2 + (1 : Int32)))] [] (mk vi vl) post) : wp X (d + 1) k_C_brokenLaws 0 0 28 [some (.ref v0), some (.int x1), some (.int x2)] [.int y1, .int y0] (mk vi vl) post :=
  wr_ior (by decide +kernel) <|
  wr_istore_n (q := 1) (by decide +kernel) rfl (by decide) <|
  wr_iinc (i := 2) (n := 1) (v := (1 : Int32)) (by decide +kernel) rfl (by decide) (by decide) <|
  wr_goto (off := -29) (t := 4) (by decide +kernel) (by decide) k1
theorem b_C_brokenLaws_36 {X : aX} {d : Nat} {post : aO} {vi : Nat → Nat → Int32} {vl : Nat → Nat → Int64} {v0 : Nat} {x1 x2 : Int32} (k1 : post (some (.int x1)) (mk vi vl)) : wp X (d + 1) k_C_brokenLaws 0 0 36 [some (.ref v0), some (.int x1), some (.int x2)] [] (mk vi vl) post :=
  wr_iload_n (q := 1) (by decide +kernel) rfl rfl <|
  wr_ret (r := some (.int x1)) (Or.inr (Or.inl ⟨_, rfl, (by decide +kernel), (Or.inl rfl)⟩)) k1
theorem b_C_unstitch_0 {X : aX} {d : Nat} {post : aO} {vi : Nat → Nat → Int32} {vl : Nat → Nat → Int64} {v0 : Nat} {x1 : Int32} (hv0 : isCl v0) (k1 : wp X (d + 1) k_C_unstitch 0 0 7 [some (.ref v0), some (.int x1), some (.int ((vi v0 7) - (1 : Int32)))] [] (mk vi vl) post) : wp X (d + 1) k_C_unstitch 0 0 0 [some (.ref v0), some (.int x1), none] [] (mk vi vl) post :=
  wr_aload_n (q := 0) (by decide +kernel) rfl rfl <|
  wr_getI (ci := 0) (k0 := 7) (idx := 34) (cl_lt0 hv0) (cl_s0 hv0) (by decide) (by decide) lf_C_34 (Or.inl rfl) (by decide +kernel) <|
  wr_iconst (n := 1) (v := (1 : Int32)) (by decide +kernel) (by decide) <|
  wr_isub (by decide +kernel) <|
  wr_istore_n (q := 2) (by decide +kernel) rfl (by decide) <|
  k1
theorem b_C_unstitch_7 {X : aX} {d : Nat} {post : aO} {vi : Nat → Nat → Int32} {vl : Nat → Nat → Int64} {v0 : Nat} {x1 x2 : Int32} (k1 : x2 < x1 → wp X (d + 1) k_C_unstitch 0 0 40 [some (.ref v0), some (.int x1), some (.int x2)] [] (mk vi vl) post) (k2 : ¬ x2 < x1 → wp X (d + 1) k_C_unstitch 0 0 12 [some (.ref v0), some (.int x1), some (.int x2)] [] (mk vi vl) post) : wp X (d + 1) k_C_unstitch 0 0 7 [some (.ref v0), some (.int x1), some (.int x2)] [] (mk vi vl) post :=
  wr_iload_n (q := 2) (by decide +kernel) rfl rfl <|
  wr_iload_n (q := 1) (by decide +kernel) rfl rfl <|
  wr_icmp_lt (off := 31) (t := 40) (by decide +kernel) (by decide) k1 k2
theorem b_C_unstitch_12 {X : aX} {d : Nat} {post : aO} {vi : Nat → Nat → Int32} {vl : Nat → Nat → Int64} {v0 : Nat} {x1 x2 : Int32} (hv0 : isCl v0) (q1 : vp_in x2 40) (q2 : vp_in x2 40) (q3 : vp_in x2 40) (k1 : CallOk X d 0 0 k_C_set [.ref v0, .int (vi (v0 + 6) x2.toNatClampNeg), .int (vi (v0 + 7) x2.toNatClampNeg), .int (vi (v0 + 8) x2.toNatClampNeg)] (mk vi vl) (fun r N' => wp X (d + 1) k_C_unstitch 0 0 34 [some (.ref v0), some (.int x1), some (.int x2)] (pR r []) N' post)) : wp X (d + 1) k_C_unstitch 0 0 12 [some (.ref v0), some (.int x1), some (.int x2)] [] (mk vi vl) post :=
  wr_aload_n (q := 0) (by decide +kernel) rfl rfl <|
  wr_aload_n (q := 0) (by decide +kernel) rfl rfl <|
  wr_getR2 (b := v0 + 6) (ci := 0) (k0 := 8) (idx := 37) (cl_lt0 hv0) (cl_s0 hv0) (by decide) (by decide) lf_C_37 rfl (cl_v8 hv0) (cl_lt hv0 6 (by decide)) (by decide +kernel) <|
  wr_iload_n (q := 2) (by decide +kernel) rfl rfl <|
  wr_iald (cl_lt hv0 6 (by decide)) (cl_s6 hv0) q1 (by decide +kernel) <|
  wr_aload_n (q := 0) (by decide +kernel) rfl rfl <|
  wr_getR2 (b := v0 + 7) (ci := 0) (k0 := 9) (idx := 40) (cl_lt0 hv0) (cl_s0 hv0) (by decide) (by decide) lf_C_40 rfl (cl_v9 hv0) (cl_lt hv0 7 (by decide)) (by decide +kernel) <|
  wr_iload_n (q := 2) (by decide +kernel) rfl rfl <|
  wr_iald (cl_lt hv0 7 (by decide)) (cl_s7 hv0) q2 (by decide +kernel) <|
  wr_aload_n (q := 0) (by decide +kernel) rfl rfl <|
  wr_getR2 (b := v0 + 8) (ci := 0) (k0 := 10) (idx := 43) (cl_lt0 hv0) (cl_s0 hv0) (by decide) (by decide) lf_C_43 rfl (cl_v10 hv0) (cl_lt hv0 8 (by decide)) (by decide +kernel) <|
  wr_iload_n (q := 2) (by decide +kernel) rfl rfl <|
  wr_iald (cl_lt hv0 8 (by decide)) (cl_s8 hv0) q3 (by decide +kernel) <|
  wr_invV (a := v0) (ci := 0) (mid2 := 33) (idx := 58) (b1 := 0) (b2 := 0) (c1 := 0) (c2 := 0) (as := [.int (vi (v0 + 6) x2.toNatClampNeg), .int (vi (v0 + 7) x2.toNatClampNeg), .int (vi (v0 + 8) x2.toNatClampNeg)]) (st := []) pl_33 rfl (Nat.le_of_ble_eq_true rfl) rfl rfl (cl_lt0 hv0) (cl_s0 hv0) (by decide) rfl lm_C_58 im_33 is_33 (by decide +kernel) k1
theorem b_C_unstitch_34 {X : aX} {d : Nat} {post : aO} {vi : Nat → Nat → Int32} {vl : Nat → Nat → Int64} {v0 : Nat} {x1 x2 : Int32} (k1 : wp X (d + 1) k_C_unstitch 0 0 7 [some (.ref v0), some (.int x1), some (.int (x2 + (-1 : Int32)))] [] (mk vi vl) post) : wp X (d + 1) k_C_unstitch 0 0 34 [some (.ref v0), some (.int x1), some (.int x2)] [] (mk vi vl) post :=
  wr_iinc (i := 2) (n := -1) (v := (-1 : Int32)) (by decide +kernel) rfl (by decide) (by decide) <|
  wr_goto (off := -30) (t := 7) (by decide +kernel) (by decide) k1
theorem b_C_unstitch_40 {X : aX} {d : Nat} {post : aO} {vi : Nat → Nat → Int32} {vl : Nat → Nat → Int64} {v0 : Nat} {x1 x2 : Int32} (hv0 : isCl v0) (k1 : ∀ w, w = up2 vi v0 7 x1 → wp X (d + 1) k_C_unstitch 0 0 45 [some (.ref v0), some (.int x1), some (.int x2)] [] (mk w vl) post) : wp X (d + 1) k_C_unstitch 0 0 40 [some (.ref v0), some (.int x1), some (.int x2)] [] (mk vi vl) post :=
  wr_aload_n (q := 0) (by decide +kernel) rfl rfl <|
  wr_iload_n (q := 1) (by decide +kernel) rfl rfl <|
  wr_putI (ci := 0) (k0 := 7) (idx := 34) (cl_lt0 hv0) (cl_s0 hv0) (by decide) (by decide) lf_C_34 rfl (by decide +kernel) <|
  k1 _ rfl
theorem b_C_unstitch_45 {X : aX} {d : Nat} {post : aO} {vi : Nat → Nat → Int32} {vl : Nat → Nat → Int64} {v0 : Nat} {x1 x2 : Int32} (k1 : CallOk X d 0 0 k_C_settleFrom [.ref v0, .int (0 : Int32)] (mk vi vl) (fun r N' => wp X (d + 1) k_C_unstitch 0 0 50 [some (.ref v0), some (.int x1), some (.int x2)] (pR r []) N' post)) (hv0 : isCl v0) : wp X (d + 1) k_C_unstitch 0 0 45 [some (.ref v0), some (.int x1), some (.int x2)] [] (mk vi vl) post :=
  wr_aload_n (q := 0) (by decide +kernel) rfl rfl <|
  wr_iconst (n := 0) (v := (0 : Int32)) (by decide +kernel) (by decide) <|
  wr_invV (a := v0) (ci := 0) (mid2 := 39) (idx := 70) (b1 := 0) (b2 := 0) (c1 := 0) (c2 := 0) (as := [.int (0 : Int32)]) (st := []) pl_39 rfl (Nat.le_of_ble_eq_true rfl) rfl rfl (cl_lt0 hv0) (cl_s0 hv0) (by decide) rfl lm_C_70 im_39 is_39 (by decide +kernel) k1
theorem b_C_unstitch_50 {X : aX} {d : Nat} {post : aO} {vi : Nat → Nat → Int32} {vl : Nat → Nat → Int64} {v0 : Nat} {x1 x2 : Int32} (k1 : post none (mk vi vl)) : wp X (d + 1) k_C_unstitch 0 0 50 [some (.ref v0), some (.int x1), some (.int x2)] [] (mk vi vl) post :=
  wr_ret (r := none) (Or.inl ⟨rfl, (by decide +kernel), rfl⟩) k1
theorem b_C_firstYearOf_0 {X : aX} {d : Nat} {post : aO} {vi : Nat → Nat → Int32} {vl : Nat → Nat → Int64} {v0 : Nat} {x1 : Int32} (k1 : wp X (d + 1) k_C_firstYearOf 0 0 4 [some (.ref v0), some (.int x1), some (.int (0 : Int32)), some (.int (0 : Int32))] [] (mk vi vl) post) : wp X (d + 1) k_C_firstYearOf 0 0 0 [some (.ref v0), some (.int x1), none, none] [] (mk vi vl) post :=
  wr_iconst (n := 0) (v := (0 : Int32)) (by decide +kernel) (by decide) <|
  wr_istore_n (q := 2) (by decide +kernel) rfl (by decide) <|
  wr_iconst (n := 0) (v := (0 : Int32)) (by decide +kernel) (by decide) <|
  wr_istore_n (q := 3) (by decide +kernel) rfl (by decide) <|
  k1
theorem b_C_firstYearOf_4 {X : aX} {d : Nat} {post : aO} {vi : Nat → Nat → Int32} {vl : Nat → Nat → Int64} {v0 : Nat} {x1 x2 x3 : Int32} (hv0 : isCl v0) (k1 : (vi v0 3) ≤ x3 → wp X (d + 1) k_C_firstYearOf 0 0 50 [some (.ref v0), some (.int x1), some (.int x2), some (.int x3)] [] (mk vi vl) post) (k2 : ¬ (vi v0 3) ≤ x3 → wp X (d + 1) k_C_firstYearOf 0 0 12 [some (.ref v0), some (.int x1), some (.int x2), some (.int x3)] [] (mk vi vl) post) : wp X (d + 1) k_C_firstYearOf 0 0 4 [some (.ref v0), some (.int x1), some (.int x2), some (.int x3)] [] (mk vi vl) post :=
  wr_iload_n (q := 3) (by decide +kernel) rfl rfl <|
  wr_aload_n (q := 0) (by decide +kernel) rfl rfl <|
  wr_getI (ci := 0) (k0 := 3) (idx := 22) (cl_lt0 hv0) (cl_s0 hv0) (by decide) (by decide) lf_C_22 (Or.inl rfl) (by decide +kernel) <|
  wr_icmp_ge (off := 41) (t := 50) (by decide +kernel) (by decide) k1 k2
theorem b_C_firstYearOf_12 {X : aX} {d : Nat} {post : aO} {vi : Nat → Nat → Int32} {vl : Nat → Nat → Int64} {v0 : Nat} {x1 x2 x3 : Int32} (k1 : ((x1 >>> (x3 &&& 31)) &&& (1 : Int32)) = 0 → wp X (d + 1) k_C_firstYearOf 0 0 44 [some (.ref v0), some (.int x1), some (.int x2), some (.int x3)] [] (mk vi vl) post) (k2 : ¬ ((x1 >>> (x3 &&& 31)) &&& (1 : Int32)) = 0 → wp X (d + 1) k_C_firstYearOf 0 0 20 [some (.ref v0), some (.int x1), some (.int x2), some (.int x3)] [] (mk vi vl) post) : wp X (d + 1) k_C_firstYearOf 0 0 12 [some (.ref v0), some (.int x1), some (.int x2), some (.int x3)] [] (mk vi vl) post :=
  wr_iload_n (q := 1) (by decide +kernel) rfl rfl <|
  wr_iload_n (q := 3) (by decide +kernel) rfl rfl <|
  wr_ishr (by decide +kernel) <|
  wr_iconst (n := 1) (v := (1 : Int32)) (by decide +kernel) (by decide) <|
  wr_iand (by decide +kernel) <|
  wr_if_eq (off := 27) (t := 44) (by decide +kernel) (by decide) k1 k2
theorem b_C_firstYearOf_20 {X : aX} {d : Nat} {post : aO} {vi : Nat → Nat → Int32} {vl : Nat → Nat → Int64} {v0 : Nat} {x1 x2 x3 : Int32} (hv0 : isCl v0) (q1 : vp_in x3 8) (k1 : CallOk X d 0 0 k_C_yearsWith [.ref v0, .int (vi (v0 + 4) x3.toNatClampNeg)] (mk vi vl) (fun r N' => wp X (d + 1) k_C_firstYearOf 0 0 31 [some (.ref v0), some (.int x1), some (.int x2), some (.int x3)] (pR r [.int x2]) N' post)) : wp X (d + 1) k_C_firstYearOf 0 0 20 [some (.ref v0), some (.int x1), some (.int x2), some (.int x3)] [] (mk vi vl) post :=
  wr_iload_n (q := 2) (by decide +kernel) rfl rfl <|
  wr_aload_n (q := 0) (by decide +kernel) rfl rfl <|
  wr_aload_n (q := 0) (by decide +kernel) rfl rfl <|
  wr_getR2 (b := v0 + 4) (ci := 0) (k0 := 5) (idx := 28) (cl_lt0 hv0) (cl_s0 hv0) (by decide) (by decide) lf_C_28 rfl (cl_v5 hv0) (cl_lt hv0 4 (by decide)) (by decide +kernel) <|
  wr_iload_n (q := 3) (by decide +kernel) rfl rfl <|
  wr_iald (cl_lt hv0 4 (by decide)) (cl_s4 hv0) q1 (by decide +kernel) <|
  wr_invV (a := v0) (ci := 0) (mid2 := 54) (idx := 88) (b1 := 0) (b2 := 0) (c1 := 0) (c2 := 0) (as := [.int (vi (v0 + 4) x3.toNatClampNeg)]) (st := [.int x2]) pl_54 rfl (Nat.le_of_ble_eq_true rfl) rfl rfl (cl_lt0 hv0) (cl_s0 hv0) (by decide) rfl lm_C_88 im_54 is_54 (by decide +kernel) k1
theorem b_C_firstYearOf_31 {X : aX} {d : Nat} {post : aO} {vi : Nat → Nat → Int32} {vl : Nat → Nat → Int64} {v0 : Nat} {x1 x2 x3 y0 y1 : Int32} (hv0 : isCl v0) (q1 : vp_in x3 8) (k1 : CallOk X d 0 0 k_C_yearsWith [.ref v0, .int (vi (v0 + 5) x3.toNatClampNeg)] (mk vi vl) (fun r N' => wp X (d + 1) k_C_firstYearOf 0 0 41 [some (.ref v0), some (.int x1), some (.int x2), some (.int x3)] (pR r [.int y1, .int y0]) N' post)) : wp X (d + 1) k_C_firstYearOf 0 0 31 [some (.ref v0), some (.int x1), some (.int x2), some (.int x3)] [.int y1, .int y0] (mk vi vl) post :=
  wr_aload_n (q := 0) (by decide +kernel) rfl rfl <|
  wr_aload_n (q := 0) (by decide +kernel) rfl rfl <|
  wr_getR2 (b := v0 + 5) (ci := 0) (k0 := 6) (idx := 31) (cl_lt0 hv0) (cl_s0 hv0) (by decide) (by decide) lf_C_31 rfl (cl_v6 hv0) (cl_lt hv0 5 (by decide)) (by decide +kernel) <|
  wr_iload_n (q := 3) (by decide +kernel) rfl rfl <|
  wr_iald (cl_lt hv0 5 (by decide)) (cl_s5 hv0) q1 (by decide +kernel) <|
  wr_invV (a := v0) (ci := 0) (mid2 := 54) (idx := 88) (b1 := 0) (b2 := 0) (c1 := 0) (c2 := 0) (as := [.int (vi (v0 + 5) x3.toNatClampNeg)]) (st := [.int y1, .int y0]) pl_54 rfl (Nat.le_of_ble_eq_true rfl) rfl rfl (cl_lt0 hv0) (cl_s0 hv0) (by decide) rfl lm_C_88 im_54 is_54 (by decide +kernel) k1
theorem b_C_firstYearOf_41 {X : aX} {d : Nat} {post : aO} {vi : Nat → Nat → Int32} {vl : Nat → Nat → Int64} {v0 : Nat} {x1 x2 x3 y0 y1 y2 : Int32} (k1 : wp X (d + 1) k_C_firstYearOf 0 0 44 [some (.ref v0), some (.int x1), some (.int (y0 ||| (y1 ||| y2))), some (.int x3)] [] (mk vi vl) post) : wp X (d + 1) k_C_firstYearOf 0 0 41 [some (.ref v0), some (.int x1), some (.int x2), some (.int x3)] [.int y2, .int y1, .int y0] (mk vi vl) post :=
  wr_ior (by decide +kernel) <|
  wr_ior (by decide +kernel) <|
  wr_istore_n (q := 2) (by decide +kernel) rfl (by decide) <|
  k1
theorem b_C_firstYearOf_44 {X : aX} {d : Nat} {post : aO} {vi : Nat → Nat → Int32} {vl : Nat → Nat → Int64} {v0 : Nat} {x1 x2 x3 : Int32} (k1 : wp X (d + 1) k_C_firstYearOf 0 0 4 [some (.ref v0), some (.int x1), some (.int x2), some (.int (x3 + (1 : Int32)))] [] (mk vi vl) post) : wp X (d + 1) k_C_firstYearOf 0 0 44 [some (.ref v0), some (.int x1), some (.int x2), some (.int x3)] [] (mk vi vl) post :=
  wr_iinc (i := 3) (n := 1) (v := (1 : Int32)) (by decide +kernel) rfl (by decide) (by decide) <|
  wr_goto (off := -43) (t := 4) (by decide +kernel) (by decide) k1
theorem b_C_firstYearOf_50 {X : aX} {d : Nat} {post : aO} {vi : Nat → Nat → Int32} {vl : Nat → Nat → Int64} {v0 : Nat} {x1 x2 x3 : Int32} (k1 : ¬ x2 = 0 → wp X (d + 1) k_C_firstYearOf 0 0 59 [some (.ref v0), some (.int x1), some (.int x2), some (.int x3)] [] (mk vi vl) post) (k2 : x2 = 0 → wp X (d + 1) k_C_firstYearOf 0 0 54 [some (.ref v0), some (.int x1), some (.int x2), some (.int x3)] [] (mk vi vl) post) : wp X (d + 1) k_C_firstYearOf 0 0 50 [some (.ref v0), some (.int x1), some (.int x2), some (.int x3)] [] (mk vi vl) post :=
  wr_iload_n (q := 2) (by decide +kernel) rfl rfl <|
  wr_if_ne (off := 8) (t := 59) (by decide +kernel) (by decide) k1 k2
theorem b_C_firstYearOf_54 {X : aX} {d : Nat} {post : aO} {vi : Nat → Nat → Int32} {vl : Nat → Nat → Int64} {v0 : Nat} {x1 x2 x3 : Int32} (k1 : wp X (d + 1) k_C_firstYearOf 0 0 63 [some (.ref v0), some (.int x1), some (.int x2), some (.int x3)] [.int (-9 : Int32)] (mk vi vl) post) : wp X (d + 1) k_C_firstYearOf 0 0 54 [some (.ref v0), some (.int x1), some (.int x2), some (.int x3)] [] (mk vi vl) post :=
  wr_bipush (n := -9) (v := (-9 : Int32)) (by decide +kernel) (by decide) <|
  wr_goto (off := 7) (t := 63) (by decide +kernel) (by decide) k1
theorem b_C_firstYearOf_59 {X : aX} {d : Nat} {post : aO} {vi : Nat → Nat → Int32} {vl : Nat → Nat → Int64} {v0 : Nat} {x1 x2 x3 : Int32} (k1 : CallOk X d 0 0 k_J_numberOfTrailingZeros [.int x2] (mk vi vl) (fun r N' => wp X (d + 1) k_C_firstYearOf 0 0 63 [some (.ref v0), some (.int x1), some (.int x2), some (.int x3)] (pR r []) N' post)) : wp X (d + 1) k_C_firstYearOf 0 0 59 [some (.ref v0), some (.int x1), some (.int x2), some (.int x3)] [] (mk vi vl) post :=
  wr_iload_n (q := 2) (by decide +kernel) rfl rfl <|
  wr_invS (mid2 := 74) (idx := 109) (b1 := 0) (b2 := 0) (c1 := 0) (c2 := 0) (as := [.int x2]) (st := []) pl_74 rfl (Nat.le_of_ble_eq_true rfl) rfl rfl lm_C_109 it_74 (by decide +kernel) k1
theorem b_C_firstYearOf_63 {X : aX} {d : Nat} {post : aO} {vi : Nat → Nat → Int32} {vl : Nat → Nat → Int64} {v0 : Nat} {x1 x2 x3 y0 : Int32} (k1 : post (some (.int y0)) (mk vi vl)) : wp X (d + 1) k_C_firstYearOf 0 0 63 [some (.ref v0), some (.int x1), some (.int x2), some (.int x3)] [.int y0] (mk vi vl) post :=
  wr_ret (r := some (.int y0)) (Or.inr (Or.inl ⟨_, rfl, (by decide +kernel), (Or.inl rfl)⟩)) k1
theorem b_C_isAnyBrokenIn_0 {X : aX} {d : Nat} {post : aO} {vi : Nat → Nat → Int32} {vl : Nat → Nat → Int64} {v0 : Nat} {x1 : Int32} (k1 : wp X (d + 1) k_C_isAnyBrokenIn 0 0 2 [some (.ref v0), some (.int x1), some (.int (0 : Int32))] [] (mk vi vl) post) : wp X (d + 1) k_C_isAnyBrokenIn 0 0 0 [some (.ref v0), some (.int x1), none] [] (mk vi vl) post :=
  wr_iconst (n := 0) (v := (0 : Int32)) (by decide +kernel) (by decide) <|
  wr_istore_n (q := 2) (by decide +kernel) rfl (by decide) <|
  k1
theorem b_C_isAnyBrokenIn_2 {X : aX} {d : Nat} {post : aO} {vi : Nat → Nat → Int32} {vl : Nat → Nat → Int64} {v0 : Nat} {x1 x2 : Int32} (hv0 : isCl v0) (k1 : (vi v0 3) ≤ x2 → wp X (d + 1) k_C_isAnyBrokenIn 0 0 27 [some (.ref v0), some (.int x1), some (.int x2)] [] (mk vi vl) post) (k2 : ¬ (vi v0 3) ≤ x2 → wp X (d + 1) k_C_isAnyBrokenIn 0 0 10 [some (.ref v0), some (.int x1), some (.int x2)] [] (mk vi vl) post) : wp X (d + 1) k_C_isAnyBrokenIn 0 0 2 [some (.ref v0), some (.int x1), some (.int x2)] [] (mk vi vl) post :=
  wr_iload_n (q := 2) (by decide +kernel) rfl rfl <|
  wr_aload_n (q := 0) (by decide +kernel) rfl rfl <|
  wr_getI (ci := 0) (k0 := 3) (idx := 22) (cl_lt0 hv0) (cl_s0 hv0) (by decide) (by decide) lf_C_22 (Or.inl rfl) (by decide +kernel) <|
  wr_icmp_ge (off := 20) (t := 27) (by decide +kernel) (by decide) k1 k2
theorem b_C_isAnyBrokenIn_10 {X : aX} {d : Nat} {post : aO} {vi : Nat → Nat → Int32} {vl : Nat → Nat → Int64} {v0 : Nat} {x1 x2 : Int32} (k1 : CallOk X d 0 0 k_C_isBrokenIn [.ref v0, .int x2, .int x1] (mk vi vl) (fun r N' => wp X (d + 1) k_C_isAnyBrokenIn 0 0 16 [some (.ref v0), some (.int x1), some (.int x2)] (pR r []) N' post)) (hv0 : isCl v0) : wp X (d + 1) k_C_isAnyBrokenIn 0 0 10 [some (.ref v0), some (.int x1), some (.int x2)] [] (mk vi vl) post :=
  wr_aload_n (q := 0) (by decide +kernel) rfl rfl <|
  wr_iload_n (q := 2) (by decide +kernel) rfl rfl <|
  wr_iload_n (q := 1) (by decide +kernel) rfl rfl <|
  wr_invV (a := v0) (ci := 0) (mid2 := 51) (idx := 103) (b1 := 0) (b2 := 0) (c1 := 0) (c2 := 0) (as := [.int x2, .int x1]) (st := []) pl_51 rfl (Nat.le_of_ble_eq_true rfl) rfl rfl (cl_lt0 hv0) (cl_s0 hv0) (by decide) rfl lm_C_103 im_51 is_51 (by decide +kernel) k1
theorem b_C_isAnyBrokenIn_16 {X : aX} {d : Nat} {post : aO} {vi : Nat → Nat → Int32} {vl : Nat → Nat → Int64} {v0 : Nat} {x1 x2 y0 : Int32} (k1 : y0 = 0 → wp X (d + 1) k_C_isAnyBrokenIn 0 0 21 [some (.ref v0), some (.int x1), some (.int x2)] [] (mk vi vl) post) (k2 : ¬ y0 = 0 → wp X (d + 1) k_C_isAnyBrokenIn 0 0 19 [some (.ref v0), some (.int x1), some (.int x2)] [] (mk vi vl) post) : wp X (d + 1) k_C_isAnyBrokenIn 0 0 16 [some (.ref v0), some (.int x1), some (.int x2)] [.int y0] (mk vi vl) post :=
  wr_if_eq (off := 5) (t := 21) (by decide +kernel) (by decide) k1 k2
theorem b_C_isAnyBrokenIn_19 {X : aX} {d : Nat} {post : aO} {vi : Nat → Nat → Int32} {vl : Nat → Nat → Int64} {v0 : Nat} {x1 x2 : Int32} (k1 : post (some (.int (1 : Int32))) (mk vi vl)) : wp X (d + 1) k_C_isAnyBrokenIn 0 0 19 [some (.ref v0), some (.int x1), some (.int x2)] [] (mk vi vl) post :=
  wr_iconst (n := 1) (v := (1 : Int32)) (by decide +kernel) (by decide) <|
  wr_ret (r := some (.int (1 : Int32))) (Or.inr (Or.inl ⟨_, rfl, (by decide +kernel), (Or.inr ⟨rfl, (by decide)⟩)⟩)) k1
theorem b_C_isAnyBrokenIn_21 {X : aX} {d : Nat} {post : aO} {vi : Nat → Nat → Int32} {vl : Nat → Nat → Int64} {v0 : Nat} {x1 x2 : Int32} (k1 : wp X (d + 1) k_C_isAnyBrokenIn 0 0 2 [some (.ref v0), some (.int x1), some (.int (x2 + (1 : Int32)))] [] (mk vi vl) post) : wp X (d + 1) k_C_isAnyBrokenIn 0 0 21 [some (.ref v0), some (.int x1), some (.int x2)] [] (mk vi vl) post :=
  wr_iinc (i := 2) (n := 1) (v := (1 : Int32)) (by decide +kernel) rfl (by decide) (by decide) <|
  wr_goto (off := -22) (t := 2) (by decide +kernel) (by decide) k1
theorem b_C_isAnyBrokenIn_27 {X : aX} {d : Nat} {post : aO} {vi : Nat → Nat → Int32} {vl : Nat → Nat → Int64} {v0 : Nat} {x1 x2 : Int32} (k1 : post (some (.int (0 : Int32))) (mk vi vl)) : wp X (d + 1) k_C_isAnyBrokenIn 0 0 27 [some (.ref v0), some (.int x1), some (.int x2)] [] (mk vi vl) post :=
  wr_iconst (n := 0) (v := (0 : Int32)) (by decide +kernel) (by decide) <|
  wr_ret (r := some (.int (0 : Int32))) (Or.inr (Or.inl ⟨_, rfl, (by decide +kernel), (Or.inr ⟨rfl, (by decide)⟩)⟩)) k1
theorem b_C_yearsWithSomething_0 {X : aX} {d : Nat} {post : aO} {vi : Nat → Nat → Int32} {vl : Nat → Nat → Int64} {v0 : Nat} (hv0 : isCl v0) (k1 : CallOk X d 0 0 k_C_yearsWith [.ref v0, .int (-9 : Int32)] (mk vi vl) (fun r N' => wp X (d + 1) k_C_yearsWithSomething 0 0 14 [some (.ref v0)] (pR r [.int (((1 : Int32) <<< ((vi v0 0) &&& 31)) - (1 : Int32))]) N' post)) : wp X (d + 1) k_C_yearsWithSomething 0 0 0 [some (.ref v0)] [] (mk vi vl) post :=
  wr_iconst (n := 1) (v := (1 : Int32)) (by decide +kernel) (by decide) <|
  wr_aload_n (q := 0) (by decide +kernel) rfl rfl <|
  wr_getI (ci := 0) (k0 := 0) (idx := 9) (cl_lt0 hv0) (cl_s0 hv0) (by decide) (by decide) lf_C_9 (Or.inl rfl) (by decide +kernel) <|
  wr_ishl (by decide +kernel) <|
  wr_iconst (n := 1) (v := (1 : Int32)) (by decide +kernel) (by decide) <|
  wr_isub (by decide +kernel) <|
  wr_aload_n (q := 0) (by decide +kernel) rfl rfl <|
  wr_bipush (n := -9) (v := (-9 : Int32)) (by decide +kernel) (by decide) <|
  wr_invV (a := v0) (ci := 0) (mid2 := 54) (idx := 88) (b1 := 0) (b2 := 0) (c1 := 0) (c2 := 0) (as := [.int (-9 : Int32)]) (st := [.int (((1 : Int32) <<< ((vi v0 0) &&& 31)) - (1 : Int32))]) pl_54 rfl (Nat.le_of_ble_eq_true rfl) rfl rfl (cl_lt0 hv0) (cl_s0 hv0) (by decide) rfl lm_C_88 im_54 is_54 (by decide +kernel) k1
theorem b_C_yearsWithSomething_14 {X : aX} {d : Nat} {post : aO} {vi : Nat → Nat → Int32} {vl : Nat → Nat → Int64} {v0 : Nat} {y0 y1 : Int32} (k1 : post (some (.int (y0 &&& (y1 ^^^ (-1 : Int32))))) (mk vi vl)) : wp X (d + 1) k_C_yearsWithSomething 0 0 14 [some (.ref v0)] [.int y1, .int y0] (mk vi vl) post :=
  wr_iconst (n := -1) (v := (-1 : Int32)) (by decide +kernel) (by decide) <|
  wr_ixor (by decide +kernel) <|
  wr_iand (by decide +kernel) <|
  wr_ret (r := some (.int (y0 &&& (y1 ^^^ (-1 : Int32))))) (Or.inr (Or.inl ⟨_, rfl, (by decide +kernel), (Or.inl rfl)⟩)) k1
theorem b_C_happensAs_0 {X : aX} {d : Nat} {post : aO} {vi : Nat → Nat → Int32} {vl : Nat → Nat → Int64} {v0 v1 : Nat} (k1 : wp X (d + 1) k_C_happensAs 0 0 2 [some (.ref v0), some (.ref v1), some (.int (0 : Int32))] [] (mk vi vl) post) : wp X (d + 1) k_C_happensAs 0 0 0 [some (.ref v0), some (.ref v1), none] [] (mk vi vl) post :=
  wr_iconst (n := 0) (v := (0 : Int32)) (by decide +kernel) (by decide) <|
  wr_istore_n (q := 2) (by decide +kernel) rfl (by decide) <|
  k1
theorem b_C_happensAs_2 {X : aX} {d : Nat} {post : aO} {vi : Nat → Nat → Int32} {vl : Nat → Nat → Int64} {v0 v1 : Nat} {x2 : Int32} (hv0 : isCl v0) (k1 : (vi v0 0) ≤ x2 → wp X (d + 1) k_C_happensAs 0 0 30 [some (.ref v0), some (.ref v1), some (.int x2)] [] (mk vi vl) post) (k2 : ¬ (vi v0 0) ≤ x2 → wp X (d + 1) k_C_happensAs 0 0 10 [some (.ref v0), some (.ref v1), some (.int x2)] [] (mk vi vl) post) : wp X (d + 1) k_C_happensAs 0 0 2 [some (.ref v0), some (.ref v1), some (.int x2)] [] (mk vi vl) post :=
  wr_iload_n (q := 2) (by decide +kernel) rfl rfl <|
  wr_aload_n (q := 0) (by decide +kernel) rfl rfl <|
  wr_getI (ci := 0) (k0 := 0) (idx := 9) (cl_lt0 hv0) (cl_s0 hv0) (by decide) (by decide) lf_C_9 (Or.inl rfl) (by decide +kernel) <|
  wr_icmp_ge (off := 23) (t := 30) (by decide +kernel) (by decide) k1 k2
theorem b_C_happensAs_10 {X : aX} {d : Nat} {post : aO} {vi : Nat → Nat → Int32} {vl : Nat → Nat → Int64} {v0 v1 v1n : Nat} {x2 : Int32} (hv0 : isCl v0) (q1 : vp_in x2 5) (hav1 : v1 < 107) (hsv1 : sh0 v1 = (0, v1n)) (q2 : vp_in x2 v1n) (k1 : (vi (v0 + 9) x2.toNatClampNeg) = (vi v1 x2.toNatClampNeg) → wp X (d + 1) k_C_happensAs 0 0 24 [some (.ref v0), some (.ref v1), some (.int x2)] [] (mk vi vl) post) (k2 : ¬ (vi (v0 + 9) x2.toNatClampNeg) = (vi v1 x2.toNatClampNeg) → wp X (d + 1) k_C_happensAs 0 0 22 [some (.ref v0), some (.ref v1), some (.int x2)] [] (mk vi vl) post) : wp X (d + 1) k_C_happensAs 0 0 10 [some (.ref v0), some (.ref v1), some (.int x2)] [] (mk vi vl) post :=
  wr_aload_n (q := 0) (by decide +kernel) rfl rfl <|
  wr_getR2 (b := v0 + 9) (ci := 0) (k0 := 11) (idx := 46) (cl_lt0 hv0) (cl_s0 hv0) (by decide) (by decide) lf_C_46 rfl (cl_v11 hv0) (cl_lt hv0 9 (by decide)) (by decide +kernel) <|
  wr_iload_n (q := 2) (by decide +kernel) rfl rfl <|
  wr_iald (cl_lt hv0 9 (by decide)) (cl_s9 hv0) q1 (by decide +kernel) <|
  wr_aload_n (q := 1) (by decide +kernel) rfl rfl <|
  wr_iload_n (q := 2) (by decide +kernel) rfl rfl <|
  wr_iald hav1 hsv1 q2 (by decide +kernel) <|
  wr_icmp_eq (off := 5) (t := 24) (by decide +kernel) (by decide) k1 k2
theorem b_C_happensAs_22 {X : aX} {d : Nat} {post : aO} {vi : Nat → Nat → Int32} {vl : Nat → Nat → Int64} {v0 v1 : Nat} {x2 : Int32} (k1 : post (some (.int (0 : Int32))) (mk vi vl)) : wp X (d + 1) k_C_happensAs 0 0 22 [some (.ref v0), some (.ref v1), some (.int x2)] [] (mk vi vl) post :=
  wr_iconst (n := 0) (v := (0 : Int32)) (by decide +kernel) (by decide) <|
  wr_ret (r := some (.int (0 : Int32))) (Or.inr (Or.inl ⟨_, rfl, (by decide +kernel), (Or.inr ⟨rfl, (by decide)⟩)⟩)) k1
theorem b_C_happensAs_24 {X : aX} {d : Nat} {post : aO} {vi : Nat → Nat → Int32} {vl : Nat → Nat → Int64} {v0 v1 : Nat} {x2 : Int32} (k1 : wp X (d + 1) k_C_happensAs 0 0 2 [some (.ref v0), some (.ref v1), some (.int (x2 + (1 : Int32)))] [] (mk vi vl) post) : wp X (d + 1) k_C_happensAs 0 0 24 [some (.ref v0), some (.ref v1), some (.int x2)] [] (mk vi vl) post :=
  wr_iinc (i := 2) (n := 1) (v := (1 : Int32)) (by decide +kernel) rfl (by decide) (by decide) <|
  wr_goto (off := -25) (t := 2) (by decide +kernel) (by decide) k1
theorem b_C_happensAs_30 {X : aX} {d : Nat} {post : aO} {vi : Nat → Nat → Int32} {vl : Nat → Nat → Int64} {v0 v1 : Nat} {x2 : Int32} (k1 : post (some (.int (1 : Int32))) (mk vi vl)) : wp X (d + 1) k_C_happensAs 0 0 30 [some (.ref v0), some (.ref v1), some (.int x2)] [] (mk vi vl) post :=
  wr_iconst (n := 1) (v := (1 : Int32)) (by decide +kernel) (by decide) <|
  wr_ret (r := some (.int (1 : Int32))) (Or.inr (Or.inl ⟨_, rfl, (by decide +kernel), (Or.inr ⟨rfl, (by decide)⟩)⟩)) k1
theorem b_C_lawsOfKind_0 {X : aX} {d : Nat} {post : aO} {vi : Nat → Nat → Int32} {vl : Nat → Nat → Int64} {v0 : Nat} {x1 : Int32} (k1 : wp X (d + 1) k_C_lawsOfKind 0 0 4 [some (.ref v0), some (.int x1), some (.int (0 : Int32)), some (.int (0 : Int32))] [] (mk vi vl) post) : wp X (d + 1) k_C_lawsOfKind 0 0 0 [some (.ref v0), some (.int x1), none, none] [] (mk vi vl) post :=
  wr_iconst (n := 0) (v := (0 : Int32)) (by decide +kernel) (by decide) <|
  wr_istore_n (q := 2) (by decide +kernel) rfl (by decide) <|
  wr_iconst (n := 0) (v := (0 : Int32)) (by decide +kernel) (by decide) <|
  wr_istore_n (q := 3) (by decide +kernel) rfl (by decide) <|
  k1
theorem b_C_lawsOfKind_4 {X : aX} {d : Nat} {post : aO} {vi : Nat → Nat → Int32} {vl : Nat → Nat → Int64} {v0 : Nat} {x1 x2 x3 : Int32} (hv0 : isCl v0) (k1 : (vi v0 3) ≤ x3 → wp X (d + 1) k_C_lawsOfKind 0 0 35 [some (.ref v0), some (.int x1), some (.int x2), some (.int x3)] [] (mk vi vl) post) (k2 : ¬ (vi v0 3) ≤ x3 → wp X (d + 1) k_C_lawsOfKind 0 0 12 [some (.ref v0), some (.int x1), some (.int x2), some (.int x3)] [] (mk vi vl) post) : wp X (d + 1) k_C_lawsOfKind 0 0 4 [some (.ref v0), some (.int x1), some (.int x2), some (.int x3)] [] (mk vi vl) post :=
  wr_iload_n (q := 3) (by decide +kernel) rfl rfl <|
  wr_aload_n (q := 0) (by decide +kernel) rfl rfl <|
  wr_getI (ci := 0) (k0 := 3) (idx := 22) (cl_lt0 hv0) (cl_s0 hv0) (by decide) (by decide) lf_C_22 (Or.inl rfl) (by decide +kernel) <|
  wr_icmp_ge (off := 26) (t := 35) (by decide +kernel) (by decide) k1 k2
theorem b_C_lawsOfKind_12 {X : aX} {d : Nat} {post : aO} {vi : Nat → Nat → Int32} {vl : Nat → Nat → Int64} {v0 : Nat} {x1 x2 x3 : Int32} (k1 : CallOk X d 0 0 k_C_isOfKind [.ref v0, .int x3, .int x1] (mk vi vl) (fun r N' => wp X (d + 1) k_C_lawsOfKind 0 0 19 [some (.ref v0), some (.int x1), some (.int x2), some (.int x3)] (pR r [.int x2]) N' post)) (hv0 : isCl v0) : wp X (d + 1) k_C_lawsOfKind 0 0 12 [some (.ref v0), some (.int x1), some (.int x2), some (.int x3)] [] (mk vi vl) post :=
  wr_iload_n (q := 2) (by decide +kernel) rfl rfl <|
  wr_aload_n (q := 0) (by decide +kernel) rfl rfl <|
  wr_iload_n (q := 3) (by decide +kernel) rfl rfl <|
  wr_iload_n (q := 1) (by decide +kernel) rfl rfl <|
  wr_invV (a := v0) (ci := 0) (mid2 := 52) (idx := 94) (b1 := 0) (b2 := 0) (c1 := 0) (c2 := 0) (as := [.int x3, .int x1]) (st := [.int x2]) pl_52 rfl (Nat.le_of_ble_eq_true rfl) rfl rfl (cl_lt0 hv0) (cl_s0 hv0) (by decide) rfl lm_C_94 im_52 is_52 (by decide +kernel) k1
theorem b_C_lawsOfKind_19 {X : aX} {d : Nat} {post : aO} {vi : Nat → Nat → Int32} {vl : Nat → Nat → Int64} {v0 : Nat} {x1 x2 x3 y0 y1 : Int32} (k1 : y1 = 0 → wp X (d + 1) k_C_lawsOfKind 0 0 26 [some (.ref v0), some (.int x1), some (.int x2), some (.int x3)] [.int y0] (mk vi vl) post) (k2 : ¬ y1 = 0 → wp X (d + 1) k_C_lawsOfKind 0 0 22 [some (.ref v0), some (.int x1), some (.int x2), some (.int x3)] [.int y0] (mk vi vl) post) : wp X (d + 1) k_C_lawsOfKind 0 0 19 [some (.ref v0), some (.int x1), some (.int x2), some (.int x3)] [.int y1, .int y0] (mk vi vl) post :=
  wr_if_eq (off := 7) (t := 26) (by decide +kernel) (by decide) k1 k2
theorem b_C_lawsOfKind_22 {X : aX} {d : Nat} {post : aO} {vi : Nat → Nat → Int32} {vl : Nat → Nat → Int64} {v0 : Nat} {x1 x2 x3 y0 : Int32} (k1 : wp X (d + 1) k_C_lawsOfKind 0 0 27 [some (.ref v0), some (.int x1), some (.int x2), some (.int x3)] [.int (1 : Int32), .int y0] (mk vi vl) post) : wp X (d + 1) k_C_lawsOfKind 0 0 22 [some (.ref v0), some (.int x1), some (.int x2), some (.int x3)] [.int y0] (mk vi vl) post :=
  wr_iconst (n := 1) (v := (1 : Int32)) (by decide +kernel) (by decide) <|
  wr_goto (off := 4) (t := 27) (by decide +kernel) (by decide) k1
theorem b_C_lawsOfKind_26 {X : aX} {d : Nat} {post : aO} {vi : Nat → Nat → Int32} {vl : Nat → Nat → Int64} {v0 : Nat} {x1 x2 x3 y0 : Int32} (k1 : wp X (d + 1) k_C_lawsOfKind 0 0 27 [some (.ref v0), some (.int x1), some (.int x2), some (.int x3)] [.int (0 : Int32), .int y0] (mk vi vl) post) : wp X (d + 1) k_C_lawsOfKind 0 0 26 [some (.ref v0), some (.int x1), some (.int x2), some (.int x3)] [.int y0] (mk vi vl) post :=
  wr_iconst (n := 0) (v := (0 : Int32)) (by decide +kernel) (by decide) <|
  k1
theorem b_C_lawsOfKind_27 {X : aX} {d : Nat} {post : aO} {vi : Nat → Nat → Int32} {vl : Nat → Nat → Int64} {v0 : Nat} {x1 x2 x3 y0 y1 : Int32} (k1 : wp X (d + 1) k_C_lawsOfKind 0 0 4 [some (.ref v0), some (.int x1), some (.int (y0 + y1)), some (.int (x3 + (1 : Int32)))] [] (mk vi vl) post) : wp X (d + 1) k_C_lawsOfKind 0 0 27 [some (.ref v0), some (.int x1), some (.int x2), some (.int x3)] [.int y1, .int y0] (mk vi vl) post :=
  wr_iadd (by decide +kernel) <|
  wr_istore_n (q := 2) (by decide +kernel) rfl (by decide) <|
  wr_iinc (i := 3) (n := 1) (v := (1 : Int32)) (by decide +kernel) rfl (by decide) (by decide) <|
  wr_goto (off := -28) (t := 4) (by decide +kernel) (by decide) k1
theorem b_C_lawsOfKind_35 {X : aX} {d : Nat} {post : aO} {vi : Nat → Nat → Int32} {vl : Nat → Nat → Int64} {v0 : Nat} {x1 x2 x3 : Int32} (k1 : post (some (.int x2)) (mk vi vl)) : wp X (d + 1) k_C_lawsOfKind 0 0 35 [some (.ref v0), some (.int x1), some (.int x2), some (.int x3)] [] (mk vi vl) post :=
  wr_iload_n (q := 2) (by decide +kernel) rfl rfl <|
  wr_ret (r := some (.int x2)) (Or.inr (Or.inl ⟨_, rfl, (by decide +kernel), (Or.inl rfl)⟩)) k1
