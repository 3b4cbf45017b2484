/-! the law: its loop, its start -/
def A0 : aA := (fun _ => -1, fun _ _ => 0, fun _ => -1, fun _ _ => 0, (0, 0, 0, fun _ => 0, fun _ => 0, fun _ => 0, fun _ => 0, fun _ => 0, fun _ _ => 0, fun _ _ => 0), fun _ => none, 0, fun _ => 0, 0, 0, 1)
theorem A0_W : wfA A0 := ⟨fun _ _ => Or.inl rfl, fun _ _ => Or.inl rfl, ⟨Nat.zero_le _, Nat.zero_le _, Nat.zero_le _, fun _ h => absurd h (Nat.not_lt_zero _), fun _ h => absurd h (Nat.not_lt_zero _), fun _ h => absurd h (Nat.not_lt_zero _)⟩, fun _ _ _ h => (by cases h), fun _ => ⟨rfl, rfl⟩⟩
theorem zR_m {r j : Nat} (h : j < r) : zR r (42 + 2 * j) 1 = -1 := if_pos (by omega)
theorem A0_C {w : Nat → Nat → Int32} (h : ∀ j, j < 95 → w j = zR 10 j) : AbC A0 w zN := by
  rw [AbC_iff]
  have z : ∀ j, j < 95 → (j < 42 ∨ 62 ≤ j ∨ j % 2 = 1) → w j = fun _ => 0 := fun j a b => by rw [h j a]; exact zR_z (by omega)
  refine ⟨⟨fun r hr => ⟨?_, fun k hk => ?_⟩, fun t ht => ⟨?_, fun k hk => ?_⟩⟩, ⟨⟨?_, ?_, ?_, fun _ q => absurd q (Nat.not_lt_zero _), fun _ q => absurd q (Nat.not_lt_zero _), fun _ q => absurd q (Nat.not_lt_zero _)⟩, fun _ q => absurd q (Nat.not_lt_zero _)⟩, fun k hk => ?_, ⟨?_, fun f hf => ?_⟩, ⟨?_, ?_, ?_⟩⟩
  · rw [h _ (by omega)]; exact zR_m (by omega)
  · rw [z _ (by omega) (by omega)]; rfl
  · rw [h _ (by omega), show 54 + 2 * t = 42 + 2 * (6 + t) by omega]; exact zR_m (by omega)
  · rw [z _ (by omega) (by omega)]; rfl
  · rw [z _ (by omega) (by omega)]; rfl
  · rw [z _ (by omega) (by omega)]; rfl
  · rw [z _ (by omega) (by omega)]; rfl
  · show w (62 + 11 * k) 0 = nI 0
    rw [z _ (by omega) (by omega)]; rfl
  · rw [z _ (by omega) (by omega)]; rfl
  · rw [z _ (by omega) (by omega)]; rfl
  · rw [z _ (by omega) (by omega)]; rfl
  · rfl
  · rfl
theorem A0_M {w : Nat → Nat → Int32} (h : ∀ j, j ≠ 97 → j ≠ 99 → j ≠ 101 → w j = zV j) (h99 : ∀ k, k < 6 → w 99 k = -1) (h101 : ∀ k, k < 4 → w 101 k = -1) (h97 : ∀ k, k < 3 → w 97 k = -1) : AbM A0 w zN := by
  have z : ∀ j, 96 ≤ j → j ≠ 97 → j ≠ 99 → j ≠ 101 → w j = fun _ => 0 := fun j a b c d => by rw [h j b c d]; unfold zV; rw [up2_n (by omega)]; exact zR_z (by omega)
  have z5 : ∀ k, k ≠ 16 → w 95 k = 0 := fun k hk => by rw [h 95 (by decide) (by decide) (by decide)]; unfold zV; rw [up2_s, vau_n hk, zR_z (by omega)]
  refine ⟨fun r hr => ⟨h99 r hr, fun k hk => ?_⟩, fun t ht => ⟨h101 t ht, fun k hk => ?_⟩, ⟨⟨⟨?_, ?_, fun _ q => absurd q (Nat.not_lt_zero _), fun _ q => absurd q (Nat.not_lt_zero _)⟩, fun _ q => absurd q (Nat.not_lt_zero _)⟩, ?_⟩, fun k hk => h97 k hk, ⟨?_, fun f hf => ?_⟩, ⟨?_, ?_, ?_⟩, ?_⟩
  · rw [z 98 (by decide) (by decide) (by decide) (by decide)]; rfl
  · rw [z 100 (by decide) (by decide) (by decide) (by decide)]; rfl
  · rw [z 96 (by decide) (by decide) (by decide) (by decide)]; rfl
  · rw [z 96 (by decide) (by decide) (by decide) (by decide)]; rfl
  · rw [z5 1 (by decide)]; rfl
  · rw [z5 8 (by decide)]; rfl
  · rw [z 103 (by decide) (by decide) (by decide) (by decide)]; rfl
  · rw [z5 10 (by decide)]; rfl
  · rfl
  · rfl
  · rw [h 95 (by decide) (by decide) (by decide)]; rfl
theorem lw_end {L i : Nat} (hX : L ≤ 384) (hi : i ≤ 384) (h : L < i + 6) : Int32.ofNat L - 6 < nI i := by
  by_cases h6 : 6 ≤ L
  · show nI L - nI 6 < nI i
    rw [nI_sub h6]; exact nI_lt (by omega) (by omega)
  · have h0 : ∀ L, L < 6 → Int32.ofNat L - 6 < 0 := by decide
    have h1 : (0 : Int32) ≤ nI i := nI_le (a := 0) (by omega) (by omega)
    exact Int32.lt_of_lt_of_le (h0 L (by omega)) h1
section S95
variable {X : aX} {d : Nat} {post : aO}
theorem law_sw {vi : Nat → Nat → Int32} {vl : Nat → Nat → Int64} {A : aA} {i : Nat} {x : Int32} (hW : wfA A) (hC : AbC A vi vl) (hM : AbM A vi vl) (hb : i + 6 ≤ X.1) (hX : X.1 ≤ 384) (kk : Nxt X d i post) : swk (fun t => wp X (d + 14) k_L_law 0 0 t [some (.ref 1000000), some (.ref 0), some (.ref 95), some (.int (nI i))] [] (mk vi vl) post) 1338 x [((0 : Int32), 212), ((1 : Int32), 245), ((2 : Int32), 288), ((3 : Int32), 321), ((4 : Int32), 344), ((5 : Int32), 407), ((6 : Int32), 430), ((7 : Int32), 463), ((8 : Int32), 506), ((9 : Int32), 529), ((10 : Int32), 552), ((11 : Int32), 585), ((12 : Int32), 618), ((13 : Int32), 651), ((14 : Int32), 684), ((15 : Int32), 717), ((16 : Int32), 740), ((17 : Int32), 763), ((18 : Int32), 786), ((19 : Int32), 809), ((20 : Int32), 832), ((21 : Int32), 855), ((22 : Int32), 868), ((23 : Int32), 891), ((24 : Int32), 914), ((25 : Int32), 957), ((26 : Int32), 1000), ((27 : Int32), 1033), ((28 : Int32), 1056), ((29 : Int32), 1089), ((30 : Int32), 1122), ((31 : Int32), 1135), ((32 : Int32), 1158), ((33 : Int32), 1191), ((34 : Int32), 1224), ((35 : Int32), 1237), ((36 : Int32), 1251), ((37 : Int32), 1265), ((38 : Int32), 1288), ((39 : Int32), 1301), ((40 : Int32), 1324)] :=
  ⟨fun _ => law_0 hW hC hM hb hX kk, fun _ => ⟨fun _ => law_1 hW hC hM hb hX kk, fun _ => ⟨fun _ => law_2 hW hC hM hb hX kk, fun _ => ⟨fun _ => law_3 hW hC hM hb hX kk, fun _ => ⟨fun _ => law_4 hW hC hM hb hX kk, fun _ => ⟨fun _ => law_5 hW hC hM hb hX kk, fun _ => ⟨fun _ => law_6 hW hC hM hb hX kk, fun _ => ⟨fun _ => law_7 hW hC hM hb hX kk, fun _ => ⟨fun _ => law_8 hW hC hM hb hX kk, fun _ => ⟨fun _ => law_9 hW hC hM hb hX kk, fun _ => ⟨fun _ => law_10 hW hC hM hb hX kk, fun _ => ⟨fun _ => law_11 hW hC hM hb hX kk, fun _ => ⟨fun _ => law_12 hW hC hM hb hX kk, fun _ => ⟨fun _ => law_13 hW hC hM hb hX kk, fun _ => ⟨fun _ => law_14 hW hC hM hb hX kk, fun _ => ⟨fun _ => law_15 hW hC hM hb hX kk, fun _ => ⟨fun _ => law_16 hW hC hM hb hX kk, fun _ => ⟨fun _ => law_17 hW hC hM hb hX kk, fun _ => ⟨fun _ => law_18 hW hC hM hb hX kk, fun _ => ⟨fun _ => law_19 hW hC hM hb hX kk, fun _ => ⟨fun _ => law_20 hW hC hM hb hX kk, fun _ => ⟨fun _ => law_21 hW hC hM hb hX kk, fun _ => ⟨fun _ => law_22 hW hC hM hb hX kk, fun _ => ⟨fun _ => law_23 hW hC hM hb hX kk, fun _ => ⟨fun _ => law_24 hW hC hM hb hX kk, fun _ => ⟨fun _ => law_25 hW hC hM hb hX kk, fun _ => ⟨fun _ => law_26 hW hC hM hb hX kk, fun _ => ⟨fun _ => law_27 hW hC hM hb hX kk, fun _ => ⟨fun _ => law_28 hW hC hM hb hX kk, fun _ => ⟨fun _ => law_29 hW hC hM hb hX kk, fun _ => ⟨fun _ => law_30 hW hC hM hb hX kk, fun _ => ⟨fun _ => law_31 hW hC hM hb hX kk, fun _ => ⟨fun _ => law_32 hW hC hM hb hX kk, fun _ => ⟨fun _ => law_33 hW hC hM hb hX kk, fun _ => ⟨fun _ => law_34 hW hC hM hb hX kk, fun _ => ⟨fun _ => law_35 hW hC hM hb hX kk, fun _ => ⟨fun _ => law_36 hW hC hM hb hX kk, fun _ => ⟨fun _ => law_37 hW hC hM hb hX kk, fun _ => ⟨fun _ => law_38 hW hC hM hb hX kk, fun _ => ⟨fun _ => law_39 hW hC hM hb hX kk, fun _ => ⟨fun _ => law_40 hW hC hM hb hX kk, fun _ => kk _ _ _ hW hC hM⟩⟩⟩⟩⟩⟩⟩⟩⟩⟩⟩⟩⟩⟩⟩⟩⟩⟩⟩⟩⟩⟩⟩⟩⟩⟩⟩⟩⟩⟩⟩⟩⟩⟩⟩⟩⟩⟩⟩⟩⟩
theorem law_loop (hX : X.1 ≤ 384) : ∀ (n i : Nat) (A : aA) (vi : Nat → Nat → Int32) (vl : Nat → Nat → Int64), X.1 ≤ i + n → i ≤ 384 → wfA A → AbC A vi vl → AbM A vi vl → wp X (d + 14) k_L_law 0 0 18 [some (.ref 1000000), some (.ref 0), some (.ref 95), some (.int (nI i))] [] (mk vi vl) (fun r _ => r = some (.int 1)) := by
  intro n
  induction n with
  | zero =>
    intro i A vi vl hn hi hW hC hM
    have g : ¬ ¬ Int32.ofNat X.1 - 6 < nI i := fun q => q (lw_end hX hi (by omega))
    refine b_L_law_18 (fun h18 => b_L_law_1344 ?_) (fun h18 => absurd h18 (by first | decide | assumption | omega | simp_all))
    rfl
  | succ n ih =>
    intro i A vi vl hn hi hW hC hM
    by_cases hb : i + 6 ≤ X.1
    · have g : ¬ Int32.ofNat X.1 - 6 < nI i := by
        show ¬ nI X.1 - nI 6 < nI i
        rw [nI_sub (by omega)]
        exact nI_nlt (by omega) (by omega)
      have v0 : vp_in (nI i) X.1 := vp_in_nI (by omega) (by omega)
      refine b_L_law_18 (fun h18 => absurd h18 (by first | decide | assumption | omega | simp_all)) (fun h18 => ?_)
      refine b_L_law_27 (by first | assumption | decide | (refine vp_in_nI ?_ ?_ <;> omega) | omega | simp_all) ?_
      refine law_sw hW hC hM hb hX (fun A' w wl hW' hC' hM' => ?_)
      refine b_L_law_1338 ?_
      have e := ih (i + 6) A' w wl (by omega) (by omega) hW' hC' hM'
      rw [← nI_add] at e
      exact e
    · have g : ¬ ¬ Int32.ofNat X.1 - 6 < nI i := fun q => q (lw_end hX hi (by omega))
      refine b_L_law_18 (fun h18 => b_L_law_1344 ?_) (fun h18 => absurd h18 (by first | decide | assumption | omega | simp_all))
      rfl
theorem law_start (hX : X.1 ≤ 384) : wp X (d + 14) k_L_law 107 8165 0 [some (.ref 1000000), none, none, none] [] (zR 0, zL, vr0, sh0, 0) (fun r _ => r = some (.int 1)) := by
  refine wn_new (n := 0) (ci := 3) (idx := 7) (b1 := 106) (b2 := 8154) sq_0 (zR_z (by omega)) rfl (by decide) lc_L_7 ln_3 ly_3 rfl rfl (by decide) (by decide +kernel) ?_
  refine wr_dup (by decide +kernel) rfl ?_
  refine wr_invI (mid2 := 0) (n := 0) (a := 0) (as := []) (st := [.ref 0]) (idx := 9) (b1 := 12) (b2 := 6550) (c1 := 94) (c2 := 1604) pl_0 rfl (Nat.le_of_ble_eq_true rfl) rfl rfl (by show 0 < 1; decide) lm_L_9 im_0 rfl rfl (by decide +kernel) ?_
  refine c_S_init ?_
  refine wr_astore_n (q := 1) (by decide +kernel) rfl (by decide) ?_
  refine wn_new (n := 95) (ci := 4) (idx := 10) (b1 := 11) (b2 := 6530) sq_95 (zR_z (by omega)) (zM_z (by decide)) (by decide) lc_L_10 ln_4 ly_4 rfl rfl (by decide) (by decide +kernel) ?_
  refine wr_dup (by decide +kernel) rfl ?_
  refine wr_invI (mid2 := 115) (n := 0) (a := 95) (as := []) (st := [.ref 95]) (idx := 12) (b1 := 0) (b2 := 0) (c1 := 11) (c2 := 6530) pl_115 rfl (Nat.le_of_ble_eq_true rfl) rfl rfl (by show 95 < 96; decide) lm_L_12 im_115 rfl rfl (by decide +kernel) ?_
  refine c_M_init (fun w h h99 h101 h97 => ?_)
  refine wr_astore_n (q := 2) (by decide +kernel) rfl (by decide) ?_
  refine wr_iconst (n := 0) (v := 0) (by decide +kernel) (by decide) ?_
  refine wr_istore_n (q := 3) (by decide +kernel) rfl (by decide) ?_
  exact law_loop hX X.1 0 A0 w zN (by omega) (by omega) A0_W (A0_C (fun j hj => by rw [h j (by omega) (by omega) (by omega)]; unfold zV; rw [up2_n (by omega)])) (A0_M h h99 h101 h97)
end S95
