/-! the constructor of the class -/
def zR (r : Nat) : Nat → Nat → Int32 := fun j k => if 42 ≤ j ∧ j < 42 + 2 * r ∧ j % 2 = 0 ∧ k = 1 then -1 else 0
def zL : Nat → Nat → Int64 := fun _ _ => 0
def zM : Nat → Nat → Int64 := up2 zL 0 10 1
theorem zR_z {r j : Nat} (h : j < 42 ∨ 42 + 2 * r ≤ j ∨ j % 2 = 1) : zR r j = fun _ => 0 := by
  funext k; exact if_neg (by omega)
theorem zR_s {r : Nat} : up2 (zR r) (42 + 2 * r) 1 (-1) = zR (r + 1) := by
  funext j
  by_cases hj : j = 42 + 2 * r
  · subst hj
    rw [up2_s]
    funext k
    by_cases hk : k = 1
    · subst hk
      rw [vau_s]
      exact (if_pos (by omega)).symm
    · rw [vau_n hk, zR_z (by omega)]
      exact (if_neg (by omega)).symm
  · rw [up2_n hj]
    funext k
    unfold zR
    by_cases hc : 42 ≤ j ∧ j < 42 + 2 * r ∧ j % 2 = 0 ∧ k = 1
    · rw [if_pos hc, if_pos (by omega)]
    · rw [if_neg hc, if_neg (by omega)]
theorem zM_z {j : Nat} (h : j ≠ 0) : zM j = fun _ => 0 := by unfold zM; rw [up2_n h]; rfl
def gpA (a r : Nat) : Nat → Nat := fun k => if k < r then vr0 a k else 0
theorem gpA_0 {a : Nat} : gpA a 0 = fun _ => 0 := by funext k; exact if_neg (Nat.not_lt_zero _)
theorem gpA_e {a m : Nat} (h : (vrl.getD a []).length ≤ m) : gpA a m = vr0 a := by
  funext k
  unfold gpA
  by_cases hk : k < m
  · rw [if_pos hk]
  · rw [if_neg hk, vr_out (by omega)]
theorem gpA_s {a r v : Nat} (h : vr0 a r = v) : va_up (gpA a r) r v = gpA a (r + 1) := by
  funext k
  unfold gpA
  by_cases hk : k = r
  · subst hk; rw [vau_s, if_pos (by omega), h]
  · rw [vau_n hk]
    by_cases hr : k < r
    · rw [if_pos hr, if_pos (by omega)]
    · rw [if_neg hr, if_neg (by omega)]
def snF : Nat → Nat := (va_up (va_up (va_up (va_up (va_up (va_up (va_up (fun _ => 0) 0 (1 + 1)) 1 (2 + 1)) 2 (3 + 1)) 3 (14 + 1)) 4 (25 + 1)) 5 (26 + 1)) 6 (41 + 1))
theorem snF_e : snF = vr0 0 := by
  funext k
  by_cases hk : k < 11
  · have key : ∀ k, k < 11 → snF k = vr0 0 k := by decide
    exact key k hk
  · have e : snF k = 0 := by
      unfold snF
      rw [vau_n (by omega), vau_n (by omega), vau_n (by omega), vau_n (by omega), vau_n (by omega), vau_n (by omega), vau_n (by omega)]
    rw [e]; exact (vr_out (by show 11 ≤ k; omega)).symm
section S93
variable {X : aX} {d : Nat} {post : aO}
theorem up1_f0 {α : Type} {f : Nat → Nat → α} {i j k : Nat} {g : Nat → α} (h : j ≠ i) : up1 f i g j k = f j k := by rw [up1_n h]
theorem si_3 (hQ : post none (zR 10, zM, vr0, sh0, 95)) : wp X (d + 4) k_S_init (11 * (3 - 0)) (177 * (3 - 0)) 149 [some (.ref 0), some (.int (nI 0))] [] (zR 10, zM, up1 vr0 25 (gpA 25 0), sh0, 62 + 11 * 0) post := by
  refine loop_up (P := fun r => wp X (d + 4) k_S_init (11 * (3 - r)) (177 * (3 - r)) 149 [some (.ref 0), some (.int (nI r))] [] (zR 10, zM, up1 vr0 25 (gpA 25 r), sh0, 62 + 11 * r) post) 3 0 (Nat.zero_le _) ?_ ?_
  · show wp X (d + 4) k_S_init (11 * (3 - 3)) (177 * (3 - 3)) 149 [some (.ref 0), some (.int (nI 3))] [] (zR 10, zM, up1 vr0 25 (gpA 25 3), sh0, 62 + 11 * 3) post
    refine wr_iload_n (q := 1) (by decide +kernel) rfl rfl ?_
    refine wr_iconst (n := 3) (v := 3) (by decide +kernel) (by decide) ?_
    refine wr_icmp_ge (off := 22) (t := 173) (by decide +kernel) (by decide) (fun _ => ?_) (fun q => absurd q (by decide))
    refine wr_ret (r := none) (Or.inl ⟨rfl, (by decide +kernel), rfl⟩) ?_
    rw [gpA_e (a := 25) (m := 3) (by decide), up1_id]
    exact hQ
  · intro r _ hr ih
    have gr : ¬ (3 : Int32) ≤ nI r := nI_ge (b := 3) hr (by omega)
    have cr : (nI r).toNatClampNeg = r := nI_clamp (by omega)
    have hb := kept_i hr
    have hlt := cl_lt0 hb
    refine wr_iload_n (q := 1) (by decide +kernel) rfl rfl ?_
    refine wr_iconst (n := 3) (v := 3) (by decide +kernel) (by decide) ?_
    refine wr_icmp_ge (off := 22) (t := 173) (by decide +kernel) (by decide) (fun q => absurd q gr) (fun _ => ?_)
    refine wr_aload_n (q := 0) (by decide +kernel) rfl rfl ?_
    refine wr_getR2 (b := 25) (ci := 3) (k0 := 4) (idx := 28) (by show 0 < 62 + 11 * r; omega) sq_0 (by decide) (by decide) lf_S_28 rfl (show up1 vr0 25 (gpA 25 r) 0 4 = 25 + 1 by rw [up1_n (by decide)]; rfl) (by show 25 < 62 + 11 * r; omega) (by decide +kernel) ?_
    refine wr_iload_n (q := 1) (by decide +kernel) rfl rfl ?_
    refine wn_new (n := 62 + 11 * r) (ci := 0) (idx := 18) (b1 := 11 * (3 - (r + 1)) + 10) (b2 := 177 * (3 - (r + 1)) + 164) (cl_s0 hb) (zR_z (by omega)) (zM_z (by omega)) (by decide) lc_S_18 ln_0 ly_0 (by omega) (by show 177 * (3 - r) = 177 * (3 - (r + 1)) + 164 + 13; omega) (by omega) (by decide +kernel) ?_
    refine wr_dup (by decide +kernel) rfl ?_
    refine wr_invIN (mid2 := 2) (n := 0) (a := 62 + 11 * r) (as := []) (st := [.ref (62 + 11 * r), .int (nI r), .ref 25]) (idx := 20) (b1 := 11 * (3 - (r + 1))) (b2 := 177 * (3 - (r + 1))) (c1 := 10) (c2 := 164) (host := "SewnAhead") pl_2 rfl (Nat.le_of_ble_eq_true rfl) rfl rfl (by show 62 + 11 * r < 62 + 11 * r + 1; omega) (by decide +kernel) im_2 rfl rfl (by decide +kernel) ?_
    refine c_C_init hb (fun j a b => zR_z (by omega)) (fun j a b => zM_z (by omega)) (fun j a b => by rw [up1_n (by omega)]) ?_
    rw [up1_e (i := 62 + 11 * r) (v := vr0 (62 + 11 * r)) (by rw [up1_n (by omega)])]
    refine wn_aast (a := 25) (v := 62 + 11 * r) (m := 3) (kd := 2) (ci := 0) (by show 25 < 62 + 11 * r + 11; omega) (by show 62 + 11 * r < 62 + 11 * r + 11; omega) sq_25 (cl_s0 hb) (Or.inr ⟨rfl, rfl⟩) (vp_in_nI hr (by omega)) (by decide +kernel) ?_
    rw [cr, gpA_s (kept_v hr)]
    refine wr_iinc (i := 1) (n := 1) (v := 1) (by decide +kernel) rfl (by decide) (by decide) ?_
    refine wr_goto (off := -21) (t := 149) (by decide +kernel) (by decide) ?_
    have e : wp X (d + 4) k_S_init (11 * (3 - (r + 1))) (177 * (3 - (r + 1))) 149 [some (.ref 0), some (.int (nI r + 1))] [] (zR 10, zM, up1 vr0 25 (gpA 25 (r + 1)), sh0, 62 + 11 * r + 11) post := by
      rw [nI_1, show 62 + 11 * r + 11 = 62 + 11 * (r + 1) by omega]; exact ih
    exact e
theorem si_2 (hQ : wp X (d + 4) k_S_init (11 * (3 - 0)) (177 * (3 - 0)) 149 [some (.ref 0), some (.int (nI 0))] [] (zR 10, zM, up1 vr0 25 (gpA 25 0), sh0, 62 + 11 * 0) post) : wp X (d + 4) k_S_init (2 * (4 - 0) + 33) (62 * (4 - 0) + 531) 121 [some (.ref 0), some (.int (nI 0))] [] (zR (6 + 0), zM, up1 (up1 vr0 25 (fun _ => 0)) 2 (gpA 2 0), sh0, 54 + 2 * 0) post := by
  refine loop_up (P := fun r => wp X (d + 4) k_S_init (2 * (4 - r) + 33) (62 * (4 - r) + 531) 121 [some (.ref 0), some (.int (nI r))] [] (zR (6 + r), zM, up1 (up1 vr0 25 (fun _ => 0)) 2 (gpA 2 r), sh0, 54 + 2 * r) post) 4 0 (Nat.zero_le _) ?_ ?_
  · show wp X (d + 4) k_S_init (2 * (4 - 4) + 33) (62 * (4 - 4) + 531) 121 [some (.ref 0), some (.int (nI 4))] [] (zR (6 + 4), zM, up1 (up1 vr0 25 (fun _ => 0)) 2 (gpA 2 4), sh0, 54 + 2 * 4) post
    refine wr_iload_n (q := 1) (by decide +kernel) rfl rfl ?_
    refine wr_iconst (n := 4) (v := 4) (by decide +kernel) (by decide) ?_
    refine wr_icmp_ge (off := 24) (t := 147) (by decide +kernel) (by decide) (fun _ => ?_) (fun q => absurd q (by decide))
    refine wr_iconst (n := 0) (v := 0) (by decide +kernel) (by decide) ?_
    refine wr_istore_n (q := 1) (by decide +kernel) rfl (by decide) ?_
    rw [gpA_e (a := 2) (m := 4) (by decide), up1_e (i := 2) (v := vr0 2) (up1_n (by decide)), ← gpA_0 (a := 25)]
    exact hQ
  · intro r _ hr ih
    have gr : ¬ (4 : Int32) ≤ nI r := nI_ge (b := 4) hr (by omega)
    have cr : (nI r).toNatClampNeg = r := nI_clamp (by omega)
    have hb := texts_i hr
    have hlt := rw_lt1 hb
    have hrl : rl (54 + 2 * r) = 60 := if_neg (by omega)
    refine wr_iload_n (q := 1) (by decide +kernel) rfl rfl ?_
    refine wr_iconst (n := 4) (v := 4) (by decide +kernel) (by decide) ?_
    refine wr_icmp_ge (off := 24) (t := 147) (by decide +kernel) (by decide) (fun q => absurd q gr) (fun _ => ?_)
    refine wr_aload_n (q := 0) (by decide +kernel) rfl rfl ?_
    refine wr_getR2 (b := 2) (ci := 3) (k0 := 1) (idx := 15) (by show 0 < 54 + 2 * r; omega) sq_0 (by decide) (by decide) lf_S_15 rfl (show up1 (up1 vr0 25 (fun _ => 0)) 2 (gpA 2 r) 0 1 = 2 + 1 by rw [up1_n (by decide), up1_n (by decide)]; rfl) (by show 2 < 54 + 2 * r; omega) (by decide +kernel) ?_
    refine wr_iload_n (q := 1) (by decide +kernel) rfl rfl ?_
    refine wn_new (n := 54 + 2 * r) (ci := 2) (idx := 9) (b1 := 2 * (4 - (r + 1)) + 33 + 1) (b2 := 62 * (4 - (r + 1)) + 531 + 60) (rw_s0 hb) (zR_z (by omega)) (zM_z (by omega)) (by decide) lc_S_9 ln_2 ly_2 (by omega) (by show 62 * (4 - r) + 531 = 62 * (4 - (r + 1)) + 531 + 60 + 2; omega) (by omega) (by decide +kernel) ?_
    refine wr_dup (by decide +kernel) rfl ?_
    refine wr_bipush (n := 60) (v := 60) (by decide +kernel) (by decide) ?_
    refine wr_invI (mid2 := 4) (n := 1) (a := 54 + 2 * r) (as := [.int 60]) (st := [.ref (54 + 2 * r), .int (nI r), .ref 2]) (idx := 57) (b1 := 2 * (4 - (r + 1)) + 33) (b2 := 62 * (4 - (r + 1)) + 531) (c1 := 1) (c2 := 60) pl_4 rfl (Nat.le_of_ble_eq_true rfl) rfl rfl (by show 54 + 2 * r < 54 + 2 * r + 1; omega) lm_S_57 im_4 rfl rfl (by decide +kernel) ?_
    refine c_R_init hb hrl (by decide) (by decide) (by decide) (fun j a b => zR_z (by omega)) (fun j a b => zM_z (by omega)) (by rw [up1_n (by omega), up1_n (by omega)]) ?_
    rw [up1_e (i := 54 + 2 * r) (v := vr0 (54 + 2 * r)) (by rw [up1_n (by omega), up1_n (by omega)]), show 54 + 2 * r = 42 + 2 * (6 + r) by omega, zR_s, show 42 + 2 * (6 + r) = 54 + 2 * r by omega]
    refine wn_aast (a := 2) (v := 54 + 2 * r) (m := 4) (kd := 1) (ci := 2) (by show 2 < 54 + 2 * r + 2; omega) (by show 54 + 2 * r < 54 + 2 * r + 2; omega) sq_2 (rw_s0 hb) (Or.inl ⟨rfl, rfl⟩) (vp_in_nI hr (by omega)) (by decide +kernel) ?_
    rw [cr, gpA_s (texts_v hr)]
    refine wr_iinc (i := 1) (n := 1) (v := 1) (by decide +kernel) rfl (by decide) (by decide) ?_
    refine wr_goto (off := -23) (t := 121) (by decide +kernel) (by decide) ?_
    have e : wp X (d + 4) k_S_init (2 * (4 - (r + 1)) + 33) (62 * (4 - (r + 1)) + 531) 121 [some (.ref 0), some (.int (nI r + 1))] [] (zR (6 + r + 1), zM, up1 (up1 vr0 25 (fun _ => 0)) 2 (gpA 2 (r + 1)), sh0, 54 + 2 * r + 2) post := by
      rw [nI_1, show 54 + 2 * r + 2 = 54 + 2 * (r + 1) by omega]; exact ih
    exact e
theorem si_1 (hQ : wp X (d + 4) k_S_init (2 * (4 - 0) + 33) (62 * (4 - 0) + 531) 121 [some (.ref 0), some (.int (nI 0))] [] (zR (6 + 0), zM, up1 (up1 vr0 25 (fun _ => 0)) 2 (gpA 2 0), sh0, 54 + 2 * 0) post) : wp X (d + 4) k_S_init (2 * (6 - 0) + 41) (42 * (6 - 0) + 779) 92 [some (.ref 0), some (.int (nI 0))] [] (zR 0, zM, up1 (up1 (up1 vr0 2 (fun _ => 0)) 25 (fun _ => 0)) 1 (gpA 1 0), sh0, 42 + 2 * 0) post := by
  refine loop_up (P := fun r => wp X (d + 4) k_S_init (2 * (6 - r) + 41) (42 * (6 - r) + 779) 92 [some (.ref 0), some (.int (nI r))] [] (zR r, zM, up1 (up1 (up1 vr0 2 (fun _ => 0)) 25 (fun _ => 0)) 1 (gpA 1 r), sh0, 42 + 2 * r) post) 6 0 (Nat.zero_le _) ?_ ?_
  · show wp X (d + 4) k_S_init (2 * (6 - 6) + 41) (42 * (6 - 6) + 779) 92 [some (.ref 0), some (.int (nI 6))] [] (zR 6, zM, up1 (up1 (up1 vr0 2 (fun _ => 0)) 25 (fun _ => 0)) 1 (gpA 1 6), sh0, 42 + 2 * 6) post
    refine wr_iload_n (q := 1) (by decide +kernel) rfl rfl ?_
    refine wr_bipush (n := 6) (v := 6) (by decide +kernel) (by decide) ?_
    refine wr_icmp_ge (off := 24) (t := 119) (by decide +kernel) (by decide) (fun _ => ?_) (fun q => absurd q (by decide))
    refine wr_iconst (n := 0) (v := 0) (by decide +kernel) (by decide) ?_
    refine wr_istore_n (q := 1) (by decide +kernel) rfl (by decide) ?_
    rw [gpA_e (a := 1) (m := 6) (by decide), up1_e (i := 1) (v := vr0 1) ((up1_n (by decide)).trans (up1_n (by decide))), up1_cm (i := 2) (j := 25) (by decide)]
    rw [gpA_0 (a := 2)] at hQ
    exact hQ
  · intro r _ hr ih
    have gr : ¬ (6 : Int32) ≤ nI r := nI_ge (b := 6) hr (by omega)
    have cr : (nI r).toNatClampNeg = r := nI_clamp (by omega)
    have hb := rows_i hr
    have hlt := rw_lt1 hb
    have hrl : rl (42 + 2 * r) = 40 := if_pos (by omega)
    refine wr_iload_n (q := 1) (by decide +kernel) rfl rfl ?_
    refine wr_bipush (n := 6) (v := 6) (by decide +kernel) (by decide) ?_
    refine wr_icmp_ge (off := 24) (t := 119) (by decide +kernel) (by decide) (fun q => absurd q gr) (fun _ => ?_)
    refine wr_aload_n (q := 0) (by decide +kernel) rfl rfl ?_
    refine wr_getR2 (b := 1) (ci := 3) (k0 := 0) (idx := 11) (by show 0 < 42 + 2 * r; omega) sq_0 (by decide) (by decide) lf_S_11 rfl (show up1 (up1 (up1 vr0 2 (fun _ => 0)) 25 (fun _ => 0)) 1 (gpA 1 r) 0 0 = 1 + 1 by rw [up1_n (by decide), up1_n (by decide), up1_n (by decide)]; rfl) (by show 1 < 42 + 2 * r; omega) (by decide +kernel) ?_
    refine wr_iload_n (q := 1) (by decide +kernel) rfl rfl ?_
    refine wn_new (n := 42 + 2 * r) (ci := 2) (idx := 9) (b1 := 2 * (6 - (r + 1)) + 41 + 1) (b2 := 42 * (6 - (r + 1)) + 779 + 40) (rw_s0 hb) (zR_z (by omega)) (zM_z (by omega)) (by decide) lc_S_9 ln_2 ly_2 (by omega) (by show 42 * (6 - r) + 779 = 42 * (6 - (r + 1)) + 779 + 40 + 2; omega) (by omega) (by decide +kernel) ?_
    refine wr_dup (by decide +kernel) rfl ?_
    refine wr_bipush (n := 40) (v := 40) (by decide +kernel) (by decide) ?_
    refine wr_invI (mid2 := 4) (n := 1) (a := 42 + 2 * r) (as := [.int 40]) (st := [.ref (42 + 2 * r), .int (nI r), .ref 1]) (idx := 57) (b1 := 2 * (6 - (r + 1)) + 41) (b2 := 42 * (6 - (r + 1)) + 779) (c1 := 1) (c2 := 40) pl_4 rfl (Nat.le_of_ble_eq_true rfl) rfl rfl (by show 42 + 2 * r < 42 + 2 * r + 1; omega) lm_S_57 im_4 rfl rfl (by decide +kernel) ?_
    refine c_R_init hb hrl (by decide) (by decide) (by decide) (fun j a b => zR_z (by omega)) (fun j a b => zM_z (by omega)) (by rw [up1_n (by omega), up1_n (by omega), up1_n (by omega)]) ?_
    rw [up1_e (i := 42 + 2 * r) (v := vr0 (42 + 2 * r)) (by rw [up1_n (by omega), up1_n (by omega), up1_n (by omega)]), zR_s]
    refine wn_aast (a := 1) (v := 42 + 2 * r) (m := 6) (kd := 1) (ci := 2) (by show 1 < 42 + 2 * r + 2; omega) (by show 42 + 2 * r < 42 + 2 * r + 2; omega) sq_1 (rw_s0 hb) (Or.inl ⟨rfl, rfl⟩) (vp_in_nI hr (by omega)) (by decide +kernel) ?_
    rw [cr, gpA_s (rows_v hr)]
    refine wr_iinc (i := 1) (n := 1) (v := 1) (by decide +kernel) rfl (by decide) (by decide) ?_
    refine wr_goto (off := -24) (t := 92) (by decide +kernel) (by decide) ?_
    have e : wp X (d + 4) k_S_init (2 * (6 - (r + 1)) + 41) (42 * (6 - (r + 1)) + 779) 92 [some (.ref 0), some (.int (nI r + 1))] [] (zR (r + 1), zM, up1 (up1 (up1 vr0 2 (fun _ => 0)) 25 (fun _ => 0)) 1 (gpA 1 (r + 1)), sh0, 42 + 2 * r + 2) post := by
      rw [nI_1, show 42 + 2 * r + 2 = 42 + 2 * (r + 1) by omega]; exact ih
    exact e
theorem c_S_init (hQ : post none (zR 10, zM, vr0, sh0, 95)) : CallOk X (d + 4) 94 1604 k_S_init [.ref 0] (zR 0, zL, up1 vr0 0 (fun _ => 0), sh0, 1) post := by
  refine CallOk.intro (by decide +kernel) rfl (Nat.le_of_ble_eq_true rfl) ?_
  show wp X (d + 4) k_S_init 94 1604 0 [some (.ref 0), none] [] (zR 0, zL, up1 vr0 0 (fun _ => 0), sh0, 1) post
  refine wr_aload_n (q := 0) (by decide +kernel) rfl rfl ?_
  refine wr_obj (idx := 3) lo_S lo_in lo_co (Nat.le_of_ble_eq_true rfl) (by decide +kernel) ?_
  refine wr_aload_n (q := 0) (by decide +kernel) rfl rfl ?_
  refine wr_bipush (n := 6) (v := 6) (by decide +kernel) (by decide) ?_
  refine wn_newR (n := 1) (len := 6) (b1 := 93) (b2 := 1598) (idx := 9) (kd := 1) (C := am_R2) sq_1 (zR_z (by omega)) rfl (Or.inl ⟨rfl, rfl⟩) (by decide) (by decide) (by decide) lc_S_9 rfl rfl (by decide) (by decide +kernel) ?_
  rw [up1_cm (i := 0) (j := 1) (by decide)]
  refine wn_putR (ci := 3) (k0 := 0) (idx := 11) (by decide) sq_0 (by decide) (by decide) lf_S_11 rfl (by decide) rfl rfl (by decide +kernel) ?_
  refine wr_aload_n (q := 0) (by decide +kernel) rfl rfl ?_
  refine wr_iconst (n := 4) (v := 4) (by decide +kernel) (by decide) ?_
  refine wn_newR (n := 2) (len := 4) (b1 := 92) (b2 := 1594) (idx := 9) (kd := 1) (C := am_R2) sq_2 (zR_z (by omega)) rfl (Or.inl ⟨rfl, rfl⟩) (by decide) (by decide) (by decide) lc_S_9 rfl rfl (by decide) (by decide +kernel) ?_
  rw [up1_cm (i := 0) (j := 2) (by decide)]
  refine wn_putR (ci := 3) (k0 := 1) (idx := 15) (by decide) sq_0 (by decide) (by decide) lf_S_15 rfl (by decide) rfl rfl (by decide +kernel) ?_
  refine wr_aload_n (q := 0) (by decide +kernel) rfl rfl ?_
  refine wn_new (n := 3) (ci := 0) (idx := 18) (b1 := 91) (b2 := 1581) sq_3 (zR_z (by omega)) rfl (by decide) lc_S_18 ln_0 ly_0 rfl rfl (by decide) (by decide +kernel) ?_
  refine wr_dup (by decide +kernel) rfl ?_
  refine wr_invIN (mid2 := 2) (n := 0) (a := 3) (as := []) (st := [.ref 3, .ref 0]) (idx := 20) (b1 := 81) (b2 := 1417) (c1 := 10) (c2 := 164) (host := "SewnAhead") pl_2 rfl (Nat.le_of_ble_eq_true rfl) rfl rfl (by show 3 < 3 + 1; decide) (by decide +kernel) im_2 rfl rfl (by decide +kernel) ?_
  refine c_C_init isCl_3 (fun j a b => zR_z (by omega)) (fun j a b => rfl) (fun j a b => by rw [up1_n (by omega), up1_n (by omega), up1_n (by omega)]) ?_
  rw [up1_e (i := 3) (v := vr0 3) (by rw [up1_n (by decide), up1_n (by decide), up1_n (by decide)])]
  refine wn_putR (ci := 3) (k0 := 2) (idx := 21) (by decide) sq_0 (by decide) (by decide) lf_S_21 rfl (by decide) rfl rfl (by decide +kernel) ?_
  refine wr_aload_n (q := 0) (by decide +kernel) rfl rfl ?_
  refine wn_new (n := 14) (ci := 0) (idx := 18) (b1 := 80) (b2 := 1404) sq_14 (zR_z (by omega)) rfl (by decide) lc_S_18 ln_0 ly_0 rfl rfl (by decide) (by decide +kernel) ?_
  refine wr_dup (by decide +kernel) rfl ?_
  refine wr_invIN (mid2 := 2) (n := 0) (a := 14) (as := []) (st := [.ref 14, .ref 0]) (idx := 20) (b1 := 70) (b2 := 1240) (c1 := 10) (c2 := 164) (host := "SewnAhead") pl_2 rfl (Nat.le_of_ble_eq_true rfl) rfl rfl (by show 14 < 14 + 1; decide) (by decide +kernel) im_2 rfl rfl (by decide +kernel) ?_
  refine c_C_init isCl_14 (fun j a b => zR_z (by omega)) (fun j a b => rfl) (fun j a b => by rw [up1_n (by omega), up1_n (by omega), up1_n (by omega)]) ?_
  rw [up1_e (i := 14) (v := vr0 14) (by rw [up1_n (by decide), up1_n (by decide), up1_n (by decide)])]
  refine wn_putR (ci := 3) (k0 := 3) (idx := 25) (by decide) sq_0 (by decide) (by decide) lf_S_25 rfl (by decide) rfl rfl (by decide +kernel) ?_
  refine wr_aload_n (q := 0) (by decide +kernel) rfl rfl ?_
  refine wr_iconst (n := 3) (v := 3) (by decide +kernel) (by decide) ?_
  refine wn_newR (n := 25) (len := 3) (b1 := 69) (b2 := 1237) (idx := 18) (kd := 2) (C := am_R0) sq_25 (zR_z (by omega)) rfl (Or.inr ⟨rfl, rfl⟩) (by decide) (by decide) (by decide) lc_S_18 rfl rfl (by decide) (by decide +kernel) ?_
  rw [up1_cm (i := 0) (j := 25) (by decide)]
  refine wn_putR (ci := 3) (k0 := 4) (idx := 28) (by decide) sq_0 (by decide) (by decide) lf_S_28 rfl (by decide) rfl rfl (by decide +kernel) ?_
  refine wr_aload_n (q := 0) (by decide +kernel) rfl rfl ?_
  refine wn_new (n := 26) (ci := 1) (idx := 32) (b1 := 68) (b2 := 1229) sq_26 (zR_z (by omega)) rfl (by decide) lc_S_32 ln_1 ly_1 rfl rfl (by decide) (by decide +kernel) ?_
  refine wr_dup (by decide +kernel) rfl ?_
  refine wr_invIN (mid2 := 3) (n := 0) (a := 26) (as := []) (st := [.ref 26, .ref 0]) (idx := 34) (b1 := 54) (b2 := 1037) (c1 := 14) (c2 := 192) (host := "SewnAhead") pl_3 rfl (Nat.le_of_ble_eq_true rfl) rfl rfl (by show 26 < 26 + 1; decide) (by decide +kernel) im_3 rfl rfl (by decide +kernel) ?_
  refine c_P_init (fun j a b => zR_z (by omega)) (fun j a b => rfl) (fun j a b => by rw [up1_n (by omega), up1_n (by omega), up1_n (by omega), up1_n (by omega)]) ?_
  rw [up1_e (i := 26) (v := vr0 26) (by rw [up1_n (by decide), up1_n (by decide), up1_n (by decide), up1_n (by decide)])]
  refine wn_putR (ci := 3) (k0 := 5) (idx := 35) (by decide) sq_0 (by decide) (by decide) lf_S_35 rfl (by decide) rfl rfl (by decide +kernel) ?_
  refine wr_aload_n (q := 0) (by decide +kernel) rfl rfl ?_
  refine wr_bipush (n := 6) (v := 6) (by decide +kernel) (by decide) ?_
  refine wn_newI (n := 41) (len := 6) (b1 := 53) (b2 := 1031) sq_41 (zR_z (by omega)) rfl (by rw [up1_n (by decide), up1_n (by decide), up1_n (by decide), up1_n (by decide)]; exact vr_z rfl) (by decide) (by decide) (by decide) rfl rfl (by decide) (by decide +kernel) ?_
  refine wn_putR (ci := 3) (k0 := 6) (idx := 39) (by decide) sq_0 (by decide) (by decide) lf_S_39 rfl (by decide) rfl rfl (by decide +kernel) ?_
  refine wr_aload_n (q := 0) (by decide +kernel) rfl rfl ?_
  refine wr_iconst (n := 0) (v := 0) (by decide +kernel) (by decide) ?_
  refine wn_putI0 (ci := 3) (k0 := 7) (idx := 43) rfl (by decide) sq_0 (by decide) (by decide) lf_S_43 rfl (by decide +kernel) ?_
  refine wr_aload_n (q := 0) (by decide +kernel) rfl rfl ?_
  refine wr_iconst (n := 0) (v := 0) (by decide +kernel) (by decide) ?_
  refine wn_putI0 (ci := 3) (k0 := 8) (idx := 47) rfl (by decide) sq_0 (by decide) (by decide) lf_S_47 rfl (by decide +kernel) ?_
  refine wr_aload_n (q := 0) (by decide +kernel) rfl rfl ?_
  refine wr_lconst (n := 0) (v := 0) (by decide +kernel) (by decide) ?_
  refine wn_putL0 (ci := 3) (k0 := 9) (idx := 50) rfl (by decide) sq_0 (by decide) (by decide) lf_S_50 rfl (by decide +kernel) ?_
  refine wr_aload_n (q := 0) (by decide +kernel) rfl rfl ?_
  refine wr_lconst (n := 1) (v := 1) (by decide +kernel) (by decide) ?_
  refine wn_putL (ci := 3) (k0 := 10) (idx := 54) (by decide) sq_0 (by decide) (by decide) lf_S_54 rfl (by decide +kernel) ?_
  refine wr_iconst (n := 0) (v := 0) (by decide +kernel) (by decide) ?_
  refine wr_istore_n (q := 1) (by decide +kernel) rfl (by decide) ?_
  have e := si_1 (X := X) (d := d) (post := post) (si_2 (si_3 hQ))
  rw [gpA_0, ← up1_cm (i := 1) (j := 25) (by decide), ← up1_cm (i := 1) (j := 2) (by decide), ← up1_e (f := up1 (up1 (up1 vr0 1 (fun _ => 0)) 2 (fun _ => 0)) 25 (fun _ => 0)) (i := 0) (v := vr0 0) (by rw [up1_n (by decide), up1_n (by decide), up1_n (by decide)]), ← snF_e] at e
  exact e
end S93
