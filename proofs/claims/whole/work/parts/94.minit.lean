/-! the constructor of the reference -/
def mnF : Nat → Nat := (va_up (va_up (va_up (va_up (va_up (va_up (va_up (va_up (va_up (va_up (va_up (fun _ => 0) 0 (96 + 1)) 2 (97 + 1)) 3 (98 + 1)) 4 (99 + 1)) 5 (100 + 1)) 6 (101 + 1)) 7 (102 + 1)) 9 (103 + 1)) 14 (104 + 1)) 15 (105 + 1)) 17 (106 + 1))
theorem mnF_e : mnF = vr0 95 := by
  funext k
  by_cases hk : k < 20
  · have key : ∀ k, k < 20 → mnF k = vr0 95 k := by decide
    exact key k hk
  · have e : mnF k = 0 := by
      unfold mnF
      rw [vau_n (by omega), vau_n (by omega), vau_n (by omega), vau_n (by omega), vau_n (by omega), vau_n (by omega), vau_n (by omega), vau_n (by omega), vau_n (by omega), vau_n (by omega), vau_n (by omega)]
    rw [e]; exact (vr_out (by show 20 ≤ k; omega)).symm
def zN : Nat → Nat → Int64 := up2 zM 95 12 1
def zV : Nat → Nat → Int32 := up2 (zR 10) 95 16 (-9)
section S94
variable {X : aX} {d : Nat} {post : aO}
theorem mi_3 {v0 : Nat → Nat → Int32} (hQ : ∀ w, (∀ j, j ≠ 97 → w j = v0 j) → (∀ k, k < 3 → w 97 k = -1) → post none (mk w zN)) : ∀ w, (∀ j, j ≠ 97 → w j = v0 j) → wp X (d + 4) k_M_init 0 0 144 [some (.ref 95), some (.int 0)] [] (mk w zN) post := by
  have key := loop_up (P := fun r => ∀ w, (∀ j, j ≠ 97 → w j = v0 j) → (∀ k, k < r → w 97 k = -1) → wp X (d + 4) k_M_init 0 0 144 [some (.ref 95), some (.int (nI r))] [] (mk w zN) post) 3 0 (Nat.zero_le _) ?_ ?_
  · exact fun w hw => key w hw (fun k hk => absurd hk (Nat.not_lt_zero _))
  · intro w hw hk
    refine wr_iload_n (q := 1) (by decide +kernel) rfl rfl ?_
    refine wr_iconst (n := 3) (v := 3) (by decide +kernel) (by decide) ?_
    refine wr_icmp_ge (off := 16) (t := 162) (by decide +kernel) (by decide) (fun _ => ?_) (fun q => absurd q (by decide))
    exact wr_ret (r := none) (Or.inl ⟨rfl, (by decide +kernel), rfl⟩) (hQ w hw hk)
  · intro r _ hr ih w hw hk
    have gr : ¬ (3 : Int32) ≤ nI r := nI_ge (b := 3) hr (by omega)
    have cr : (nI r).toNatClampNeg = r := nI_clamp (by omega)
    refine wr_iload_n (q := 1) (by decide +kernel) rfl rfl ?_
    refine wr_iconst (n := 3) (v := 3) (by decide +kernel) (by decide) ?_
    refine wr_icmp_ge (off := 16) (t := 162) (by decide +kernel) (by decide) (fun q => absurd q gr) (fun _ => ?_)
    refine wr_aload_n (q := 0) (by decide +kernel) rfl rfl ?_
    refine wr_getR2 (b := 97) (ci := 4) (k0 := 2) (idx := 13) lq_95 sq_95 (by decide) (by decide) lf_M_13 rfl vq_95_2 lq_97 (by decide +kernel) ?_
    refine wr_iload_n (q := 1) (by decide +kernel) rfl rfl ?_
    refine wr_iconst (n := -1) (v := -1) (by decide +kernel) (by decide) ?_
    refine wr_iast lq_97 sq_97 (vp_in_nI hr (by omega)) (by decide +kernel) ?_
    refine wr_iinc (i := 1) (n := 1) (v := 1) (by decide +kernel) rfl (by decide) (by decide) ?_
    refine wr_goto (off := -15) (t := 144) (by decide +kernel) (by decide) ?_
    have e := ih (up2 w 97 r (-1)) (fun j hj => by rw [up2_n hj]; exact hw j hj) (fun k h => ?_)
    · rw [← nI_1] at e
      rw [cr]
      exact e
    · rw [up2_s]
      by_cases hkr : k = r
      · rw [hkr, vau_s]
      · rw [vau_n hkr]; exact hk k (by omega)
theorem mi_2 {v0 : Nat → Nat → Int32} (hQ : ∀ w, (∀ j, j ≠ 101 → w j = v0 j) → (∀ k, k < 4 → w 101 k = -1) → wp X (d + 4) k_M_init 0 0 144 [some (.ref 95), some (.int 0)] [] (mk w zN) post) : ∀ w, (∀ j, j ≠ 101 → w j = v0 j) → wp X (d + 4) k_M_init 0 0 124 [some (.ref 95), some (.int 0)] [] (mk w zN) post := by
  have key := loop_up (P := fun r => ∀ w, (∀ j, j ≠ 101 → w j = v0 j) → (∀ k, k < r → w 101 k = -1) → wp X (d + 4) k_M_init 0 0 124 [some (.ref 95), some (.int (nI r))] [] (mk w zN) post) 4 0 (Nat.zero_le _) ?_ ?_
  · exact fun w hw => key w hw (fun k hk => absurd hk (Nat.not_lt_zero _))
  · intro w hw hk
    refine wr_iload_n (q := 1) (by decide +kernel) rfl rfl ?_
    refine wr_iconst (n := 4) (v := 4) (by decide +kernel) (by decide) ?_
    refine wr_icmp_ge (off := 16) (t := 142) (by decide +kernel) (by decide) (fun _ => ?_) (fun q => absurd q (by decide))
    refine wr_iconst (n := 0) (v := 0) (by decide +kernel) (by decide) ?_
    refine wr_istore_n (q := 1) (by decide +kernel) rfl (by decide) ?_
    exact hQ w hw hk
  · intro r _ hr ih w hw hk
    have gr : ¬ (4 : Int32) ≤ nI r := nI_ge (b := 4) hr (by omega)
    have cr : (nI r).toNatClampNeg = r := nI_clamp (by omega)
    refine wr_iload_n (q := 1) (by decide +kernel) rfl rfl ?_
    refine wr_iconst (n := 4) (v := 4) (by decide +kernel) (by decide) ?_
    refine wr_icmp_ge (off := 16) (t := 142) (by decide +kernel) (by decide) (fun q => absurd q gr) (fun _ => ?_)
    refine wr_aload_n (q := 0) (by decide +kernel) rfl rfl ?_
    refine wr_getR2 (b := 101) (ci := 4) (k0 := 6) (idx := 25) lq_95 sq_95 (by decide) (by decide) lf_M_25 rfl vq_95_6 lq_101 (by decide +kernel) ?_
    refine wr_iload_n (q := 1) (by decide +kernel) rfl rfl ?_
    refine wr_iconst (n := -1) (v := -1) (by decide +kernel) (by decide) ?_
    refine wr_iast lq_101 sq_101 (vp_in_nI hr (by omega)) (by decide +kernel) ?_
    refine wr_iinc (i := 1) (n := 1) (v := 1) (by decide +kernel) rfl (by decide) (by decide) ?_
    refine wr_goto (off := -15) (t := 124) (by decide +kernel) (by decide) ?_
    have e := ih (up2 w 101 r (-1)) (fun j hj => by rw [up2_n hj]; exact hw j hj) (fun k h => ?_)
    · rw [← nI_1] at e
      rw [cr]
      exact e
    · rw [up2_s]
      by_cases hkr : k = r
      · rw [hkr, vau_s]
      · rw [vau_n hkr]; exact hk k (by omega)
theorem mi_1 {v0 : Nat → Nat → Int32} (hQ : ∀ w, (∀ j, j ≠ 99 → w j = v0 j) → (∀ k, k < 6 → w 99 k = -1) → wp X (d + 4) k_M_init 0 0 124 [some (.ref 95), some (.int 0)] [] (mk w zN) post) : ∀ w, (∀ j, j ≠ 99 → w j = v0 j) → wp X (d + 4) k_M_init 0 0 103 [some (.ref 95), some (.int 0)] [] (mk w zN) post := by
  have key := loop_up (P := fun r => ∀ w, (∀ j, j ≠ 99 → w j = v0 j) → (∀ k, k < r → w 99 k = -1) → wp X (d + 4) k_M_init 0 0 103 [some (.ref 95), some (.int (nI r))] [] (mk w zN) post) 6 0 (Nat.zero_le _) ?_ ?_
  · exact fun w hw => key w hw (fun k hk => absurd hk (Nat.not_lt_zero _))
  · intro w hw hk
    refine wr_iload_n (q := 1) (by decide +kernel) rfl rfl ?_
    refine wr_bipush (n := 6) (v := 6) (by decide +kernel) (by decide) ?_
    refine wr_icmp_ge (off := 16) (t := 122) (by decide +kernel) (by decide) (fun _ => ?_) (fun q => absurd q (by decide))
    refine wr_iconst (n := 0) (v := 0) (by decide +kernel) (by decide) ?_
    refine wr_istore_n (q := 1) (by decide +kernel) rfl (by decide) ?_
    exact hQ w hw hk
  · intro r _ hr ih w hw hk
    have gr : ¬ (6 : Int32) ≤ nI r := nI_ge (b := 6) hr (by omega)
    have cr : (nI r).toNatClampNeg = r := nI_clamp (by omega)
    refine wr_iload_n (q := 1) (by decide +kernel) rfl rfl ?_
    refine wr_bipush (n := 6) (v := 6) (by decide +kernel) (by decide) ?_
    refine wr_icmp_ge (off := 16) (t := 122) (by decide +kernel) (by decide) (fun q => absurd q gr) (fun _ => ?_)
    refine wr_aload_n (q := 0) (by decide +kernel) rfl rfl ?_
    refine wr_getR2 (b := 99) (ci := 4) (k0 := 4) (idx := 19) lq_95 sq_95 (by decide) (by decide) lf_M_19 rfl vq_95_4 lq_99 (by decide +kernel) ?_
    refine wr_iload_n (q := 1) (by decide +kernel) rfl rfl ?_
    refine wr_iconst (n := -1) (v := -1) (by decide +kernel) (by decide) ?_
    refine wr_iast lq_99 sq_99 (vp_in_nI hr (by omega)) (by decide +kernel) ?_
    refine wr_iinc (i := 1) (n := 1) (v := 1) (by decide +kernel) rfl (by decide) (by decide) ?_
    refine wr_goto (off := -16) (t := 103) (by decide +kernel) (by decide) ?_
    have e := ih (up2 w 99 r (-1)) (fun j hj => by rw [up2_n hj]; exact hw j hj) (fun k h => ?_)
    · rw [← nI_1] at e
      rw [cr]
      exact e
    · rw [up2_s]
      by_cases hkr : k = r
      · rw [hkr, vau_s]
      · rw [vau_n hkr]; exact hk k (by omega)
theorem c_M_init (hQ : ∀ w, (∀ j, j ≠ 97 → j ≠ 99 → j ≠ 101 → w j = zV j) → (∀ k, k < 6 → w 99 k = -1) → (∀ k, k < 4 → w 101 k = -1) → (∀ k, k < 3 → w 97 k = -1) → post none (mk w zN)) : CallOk X (d + 4) 11 6530 k_M_init [.ref 95] (zR 10, zM, up1 vr0 95 (fun _ => 0), sh0, 96) post := by
  refine CallOk.intro (by decide +kernel) rfl (Nat.le_of_ble_eq_true rfl) ?_
  show wp X (d + 4) k_M_init 11 6530 0 [some (.ref 95), none] [] (zR 10, zM, up1 vr0 95 (fun _ => 0), sh0, 96) post
  refine wr_aload_n (q := 0) (by decide +kernel) rfl rfl ?_
  refine wr_obj (idx := 1) lo_M lo_in lo_co (Nat.le_of_ble_eq_true rfl) (by decide +kernel) ?_
  refine wr_aload_n (q := 0) (by decide +kernel) rfl rfl ?_
  refine wr_sipush (n := 5976) (v := 5976) (by decide +kernel) (by decide) ?_
  refine wn_newI (n := 96) (len := 5976) (b1 := 10) (b2 := 554) sq_96 (zR_z (by omega)) (zM_z (by decide)) (by rw [up1_n (by decide)]; exact vr_z rfl) (by decide) (by decide) (by decide) rfl rfl (by decide) (by decide +kernel) ?_
  refine wn_putR (ci := 4) (k0 := 0) (idx := 7) (by decide) sq_95 (by decide) (by decide) lf_M_7 rfl (by decide) rfl rfl (by decide +kernel) ?_
  refine wr_aload_n (q := 0) (by decide +kernel) rfl rfl ?_
  refine wr_iconst (n := 3) (v := 3) (by decide +kernel) (by decide) ?_
  refine wn_newI (n := 97) (len := 3) (b1 := 9) (b2 := 551) sq_97 (zR_z (by omega)) (zM_z (by decide)) (by rw [up1_n (by decide)]; exact vr_z rfl) (by decide) (by decide) (by decide) rfl rfl (by decide) (by decide +kernel) ?_
  refine wn_putR (ci := 4) (k0 := 2) (idx := 13) (by decide) sq_95 (by decide) (by decide) lf_M_13 rfl (by decide) rfl rfl (by decide +kernel) ?_
  refine wr_aload_n (q := 0) (by decide +kernel) rfl rfl ?_
  refine wr_sipush (n := 240) (v := 240) (by decide +kernel) (by decide) ?_
  refine wn_newI (n := 98) (len := 240) (b1 := 8) (b2 := 311) sq_98 (zR_z (by omega)) (zM_z (by decide)) (by rw [up1_n (by decide)]; exact vr_z rfl) (by decide) (by decide) (by decide) rfl rfl (by decide) (by decide +kernel) ?_
  refine wn_putR (ci := 4) (k0 := 3) (idx := 16) (by decide) sq_95 (by decide) (by decide) lf_M_16 rfl (by decide) rfl rfl (by decide +kernel) ?_
  refine wr_aload_n (q := 0) (by decide +kernel) rfl rfl ?_
  refine wr_bipush (n := 6) (v := 6) (by decide +kernel) (by decide) ?_
  refine wn_newI (n := 99) (len := 6) (b1 := 7) (b2 := 305) sq_99 (zR_z (by omega)) (zM_z (by decide)) (by rw [up1_n (by decide)]; exact vr_z rfl) (by decide) (by decide) (by decide) rfl rfl (by decide) (by decide +kernel) ?_
  refine wn_putR (ci := 4) (k0 := 4) (idx := 19) (by decide) sq_95 (by decide) (by decide) lf_M_19 rfl (by decide) rfl rfl (by decide +kernel) ?_
  refine wr_aload_n (q := 0) (by decide +kernel) rfl rfl ?_
  refine wr_sipush (n := 240) (v := 240) (by decide +kernel) (by decide) ?_
  refine wn_newI (n := 100) (len := 240) (b1 := 6) (b2 := 65) sq_100 (zR_z (by omega)) (zM_z (by decide)) (by rw [up1_n (by decide)]; exact vr_z rfl) (by decide) (by decide) (by decide) rfl rfl (by decide) (by decide +kernel) ?_
  refine wn_putR (ci := 4) (k0 := 5) (idx := 22) (by decide) sq_95 (by decide) (by decide) lf_M_22 rfl (by decide) rfl rfl (by decide +kernel) ?_
  refine wr_aload_n (q := 0) (by decide +kernel) rfl rfl ?_
  refine wr_iconst (n := 4) (v := 4) (by decide +kernel) (by decide) ?_
  refine wn_newI (n := 101) (len := 4) (b1 := 5) (b2 := 61) sq_101 (zR_z (by omega)) (zM_z (by decide)) (by rw [up1_n (by decide)]; exact vr_z rfl) (by decide) (by decide) (by decide) rfl rfl (by decide) (by decide +kernel) ?_
  refine wn_putR (ci := 4) (k0 := 6) (idx := 25) (by decide) sq_95 (by decide) (by decide) lf_M_25 rfl (by decide) rfl rfl (by decide +kernel) ?_
  refine wr_aload_n (q := 0) (by decide +kernel) rfl rfl ?_
  refine wr_bipush (n := 40) (v := 40) (by decide +kernel) (by decide) ?_
  refine wn_newI (n := 102) (len := 40) (b1 := 4) (b2 := 21) sq_102 (zR_z (by omega)) (zM_z (by decide)) (by rw [up1_n (by decide)]; exact vr_z rfl) (by decide) (by decide) (by decide) rfl rfl (by decide) (by decide +kernel) ?_
  refine wn_putR (ci := 4) (k0 := 7) (idx := 28) (by decide) sq_95 (by decide) (by decide) lf_M_28 rfl (by decide) rfl rfl (by decide +kernel) ?_
  refine wr_aload_n (q := 0) (by decide +kernel) rfl rfl ?_
  refine wr_bipush (n := 6) (v := 6) (by decide +kernel) (by decide) ?_
  refine wn_newI (n := 103) (len := 6) (b1 := 3) (b2 := 15) sq_103 (zR_z (by omega)) (zM_z (by decide)) (by rw [up1_n (by decide)]; exact vr_z rfl) (by decide) (by decide) (by decide) rfl rfl (by decide) (by decide +kernel) ?_
  refine wn_putR (ci := 4) (k0 := 9) (idx := 31) (by decide) sq_95 (by decide) (by decide) lf_M_31 rfl (by decide) rfl rfl (by decide +kernel) ?_
  refine wr_aload_n (q := 0) (by decide +kernel) rfl rfl ?_
  refine wr_lconst (n := 1) (v := 1) (by decide +kernel) (by decide) ?_
  refine wn_putL (ci := 4) (k0 := 12) (idx := 34) (by decide) sq_95 (by decide) (by decide) lf_M_34 rfl (by decide +kernel) ?_
  refine wr_aload_n (q := 0) (by decide +kernel) rfl rfl ?_
  refine wr_iconst (n := 5) (v := 5) (by decide +kernel) (by decide) ?_
  refine wn_newI (n := 104) (len := 5) (b1 := 2) (b2 := 10) sq_104 (zR_z (by omega)) (by rw [up2_n (by decide)]; exact zM_z (by decide)) (by rw [up1_n (by decide)]; exact vr_z rfl) (by decide) (by decide) (by decide) rfl rfl (by decide) (by decide +kernel) ?_
  refine wn_putR (ci := 4) (k0 := 14) (idx := 38) (by decide) sq_95 (by decide) (by decide) lf_M_38 rfl (by decide) rfl rfl (by decide +kernel) ?_
  refine wr_aload_n (q := 0) (by decide +kernel) rfl rfl ?_
  refine wr_iconst (n := 5) (v := 5) (by decide +kernel) (by decide) ?_
  refine wn_newI (n := 105) (len := 5) (b1 := 1) (b2 := 5) sq_105 (zR_z (by omega)) (by rw [up2_n (by decide)]; exact zM_z (by decide)) (by rw [up1_n (by decide)]; exact vr_z rfl) (by decide) (by decide) (by decide) rfl rfl (by decide) (by decide +kernel) ?_
  refine wn_putR (ci := 4) (k0 := 15) (idx := 41) (by decide) sq_95 (by decide) (by decide) lf_M_41 rfl (by decide) rfl rfl (by decide +kernel) ?_
  refine wr_aload_n (q := 0) (by decide +kernel) rfl rfl ?_
  refine wr_bipush (n := -9) (v := -9) (by decide +kernel) (by decide) ?_
  refine wn_putI (ci := 4) (k0 := 16) (idx := 44) (by decide) sq_95 (by decide) (by decide) lf_M_44 rfl (by decide +kernel) ?_
  refine wr_aload_n (q := 0) (by decide +kernel) rfl rfl ?_
  refine wr_iconst (n := 5) (v := 5) (by decide +kernel) (by decide) ?_
  refine wn_newI (n := 106) (len := 5) (b1 := 0) (b2 := 0) sq_106 (by rw [up2_n (by decide)]; exact zR_z (by omega)) (by rw [up2_n (by decide)]; exact zM_z (by decide)) (by rw [up1_n (by decide)]; exact vr_z rfl) (by decide) (by decide) (by decide) rfl rfl (by decide) (by decide +kernel) ?_
  refine wn_putR (ci := 4) (k0 := 17) (idx := 48) (by decide) sq_95 (by decide) (by decide) lf_M_48 rfl (by decide) rfl rfl (by decide +kernel) ?_
  refine wr_iconst (n := 0) (v := 0) (by decide +kernel) (by decide) ?_
  refine wr_istore_n (q := 1) (by decide +kernel) rfl (by decide) ?_
  have fin : ∀ w, (∀ j, j ≠ 99 → w j = zV j) → wp X (d + 4) k_M_init 0 0 103 [some (.ref 95), some (.int 0)] [] (mk w zN) post := by
    refine mi_1 (fun w1 h1 k1 => ?_)
    refine mi_2 (v0 := w1) (fun w2 h2 k2 => ?_) w1 (fun _ _ => rfl)
    refine mi_3 (v0 := w2) (fun w3 h3 k3 => ?_) w2 (fun _ _ => rfl)
    refine hQ w3 (fun j a b c => by rw [h3 j a, h2 j c, h1 j b]) (fun k hk => by rw [h3 99 (by decide), h2 99 (by decide)]; exact k1 k hk) (fun k hk => by rw [h3 101 (by decide)]; exact k2 k hk) k3
  have e := fin zV (fun _ _ => rfl)
  have e : wp X (d + 4) k_M_init 0 0 103 [some (.ref 95), some (.int 0)] [] (zV, zN, vr0, sh0, 107) post := e
  rw [← up1_e (f := vr0) (i := 95) (v := mnF) mnF_e.symm] at e
  exact e
end S94
