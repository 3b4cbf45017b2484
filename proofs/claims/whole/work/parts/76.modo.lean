/-! the reference: chance -/
section S76
variable {X : aX} {d : Nat} {vi : Nat → Nat → Int32} {vl : Nat → Nat → Int64} {post : aO} {A : aA} {c : Cl} {f g : Nat → Int32}
theorem ch_go {u l : Nat} (hu : u < 2 ^ 31) (hl : l < 2 ^ 31) (h0 : 0 < l) (hQ : ∀ wl, wl 95 11 = lN (u / Nat.gcd u l) → wl 95 12 = lN (l / Nat.gcd u l) → (∀ j, j ≠ 95 → wl j = vl j) → post (some (.int 1)) (mk vi wl)) : ∀ (b a : Nat), a < 2 ^ 31 → b < 2 ^ 31 → Nat.gcd a b = Nat.gcd u l → ∀ l5, wp X (d + 1) k_M_chance 0 0 5 [some (.ref 95), some (.int (nI u)), some (.int (nI l)), some (.int (nI a)), some (.int (nI b)), l5] [] (mk vi vl) post := by
  intro b
  induction b using Nat.strongRecOn with
  | ind b ih =>
    intro a ha hb he l5
    by_cases hb0 : b = 0
    · subst hb0
      rw [Nat.gcd_zero_right] at he
      have hg : 0 < Nat.gcd u l := Nat.gcd_pos_of_pos_right _ h0
      have g1 : ¬ ¬ nI 0 = 0 := by decide
      have g2 : ¬ nI a = 0 := nI_ne0 (by omega) ha
      refine b_M_chance_5 (fun h5 => b_M_chance_26 (by first | assumption | decide | (refine vp_in_nI ?_ ?_ <;> omega) | omega | simp_all) (fun w26 hw26 => b_M_chance_34 (by first | assumption | decide | (refine vp_in_nI ?_ ?_ <;> omega) | omega | simp_all) (fun w34 hw34 => b_M_chance_42 ?_))) (fun h5 => absurd h5 (by first | decide | assumption | omega | simp_all))
      refine hQ _ ?_ ?_ (fun j hj => ?_)
      · rw [hw34, up2_s, vau_n (by decide), hw26, up2_s, vau_s, nI_div hu ha, he, nI_l (Nat.lt_of_le_of_lt (Nat.div_le_self _ _) hu)]
      · rw [hw34, up2_s, vau_s, nI_div hl ha, he, nI_l (Nat.lt_of_le_of_lt (Nat.div_le_self _ _) hl)]
      · rw [hw34, up2_n hj, hw26, up2_n hj]
    · have g1 : ¬ nI b = 0 := nI_ne0 (by omega) hb
      have hr : a % b < b := Nat.mod_lt _ (by omega)
      refine b_M_chance_5 (fun h5 => absurd h5 (by first | decide | assumption | omega | simp_all)) (fun h5 => b_M_chance_10 (by first | assumption | decide | (refine vp_in_nI ?_ ?_ <;> omega) | omega | simp_all) ?_)
      rw [nI_mod ha hb]
      refine ih (a % b) hr b hb (by omega) ?_ _
      rw [← he, Nat.gcd_comm b, ← Nat.gcd_rec, Nat.gcd_comm]
theorem c_M_chance {u l : Nat} (hu : u < 2 ^ 31) (hl : l < 2 ^ 31) (h0 : 0 < l) (hQ : ∀ wl, wl 95 11 = lN (u / Nat.gcd u l) → wl 95 12 = lN (l / Nat.gcd u l) → (∀ j, j ≠ 95 → wl j = vl j) → post (some (.int 1)) (mk vi wl)) : CallOk X (d + 1) 0 0 k_M_chance [.ref 95, .int (nI u), .int (nI l)] (mk vi vl) post := by
  refine CallOk.intro (by decide +kernel) rfl (Nat.le_of_ble_eq_true rfl) ?_
  refine b_M_chance_0 ?_
  exact ch_go hu hl h0 hQ l u hu hl rfl _
theorem c_M_tellsPlan {r code : Nat} (hw : wfV c) (hV : MV c 0 (vi 96)) (hcode : code < 7 ^ cN c) (hr : r < 6) (hQ : ∀ w, (∀ j, j ≠ 98 → j ≠ 99 → w j = vi j) → w 99 = va_up (vi 99) r (nI (cN c)) → (∀ k, k < 40 → w 98 (40 * r + k) = if k < cN c then nI (dgc (cN c) code k) else 0) → (∀ q, q < 6 → q ≠ r → ∀ k, k < 40 → w 98 (40 * q + k) = vi 98 (40 * q + k)) → post none (mk w vl)) : CallOk X (d + 2) 0 0 k_M_tellsPlan [.ref 95, .int (nI code), .int (nI r)] (mk vi vl) post := by
  refine CallOk.intro (by decide +kernel) rfl (Nat.le_of_ble_eq_true rfl) ?_
  have hn5 := hw.1
  have h7 := pow7_le hn5
  have e0 : vi 96 0 = nI (cN c) := hV.1
  refine b_M_tellsPlan_0 ?_
  rw [e0]
  refine c_M_anew hr ?_
  have a0 : ∀ j, j ≠ 98 → j ≠ 99 → anM vi r (nI (cN c)) j = vi j := fun j a b => by unfold anM; rw [up1_n a, up2_n b]
  have a9 : anM vi r (nI (cN c)) 99 = va_up (vi 99) r (nI (cN c)) := by unfold anM; rw [up1_n (by decide), up2_s]
  have a8 : ∀ k, anM vi r (nI (cN c)) 98 k = if 40 * r ≤ k ∧ k < 40 * r + 40 then 0 else vi 98 k := fun k => by unfold anM; rw [up1_s]
  generalize anM vi r (nI (cN c)) = v at a0 a9 a8
  refine b_M_tellsPlan_11 ?_
  rw [show v 96 0 = nI (cN c) by rw [a0 96 (by decide) (by decide)]; exact e0]
  have scan : ∀ k, k ≤ cN c → ∀ u, (∀ j, j ≠ 98 → u j = v j) → (∀ q, (q < 40 * r + k ∨ 40 * r + cN c ≤ q) → u 98 q = v 98 q) → (∀ y, k ≤ y → y < cN c → u 98 (40 * r + y) = nI (dgc (cN c) code y)) → wp X (d + 2) k_M_tellsPlan 0 0 23 [some (.ref 95), some (.int (nI code)), some (.int (nI r)), some (.int (nI (code / 7 ^ (cN c - k)))), some (.int (nI k - 1))] [] (mk u vl) post := by
    intro k
    induction k with
    | zero =>
      intro _ u u1 u2 u3
      have g1 : ¬ ¬ nI 0 - 1 < 0 := by decide
      refine b_M_tellsPlan_23 (fun h23 => b_M_tellsPlan_55 ?_) (fun h23 => absurd h23 (by first | decide | assumption | omega | simp_all))
      refine hQ u (fun j a b => by rw [u1 j a]; exact a0 j a b) (by rw [u1 99 (by decide)]; exact a9) (fun k hk => ?_) (fun q hq hqr k hk => by rw [u2 _ (by omega), a8, if_neg (by omega)])
      by_cases hkn : k < cN c
      · rw [if_pos hkn]; exact u3 k (Nat.zero_le _) hkn
      · rw [if_neg hkn, u2 _ (by omega), a8, if_pos (by omega)]
    | succ k ihk =>
      intro hk u u1 u2 u3
      rw [nI_pred]
      have em : nI k + -1 = nI k - 1 := by rw [Int32.sub_eq_add_neg]
      have g1 : ¬ nI k < 0 := nI_pos (by omega)
      have v1 : vp_in (40 * nI r + nI k) 240 := by rw [ix40]; exact vp_in_nI (by omega) (by omega)
      have hlt : code / 7 ^ (cN c - (k + 1)) < 2 ^ 31 := Nat.lt_of_le_of_lt (Nat.div_le_self _ _) (by omega)
      have epk : code / 7 ^ (cN c - (k + 1)) % 7 = dgc (cN c) code k := by unfold dgc; rw [show cN c - (k + 1) = cN c - 1 - k by omega]
      have ed : code / 7 ^ (cN c - (k + 1)) / 7 = code / 7 ^ (cN c - k) := by rw [Nat.div_div_eq_div_mul, ← Nat.pow_succ, show (cN c - (k + 1)).succ = cN c - k by omega]
      refine b_M_tellsPlan_23 (fun h23 => absurd h23 (by first | decide | assumption | omega | simp_all)) (fun h23 => b_M_tellsPlan_28 (by first | assumption | decide | (refine vp_in_nI ?_ ?_ <;> omega) | omega | simp_all) (fun w28 hw28 => b_M_tellsPlan_44 ?_))
      rw [em, nI_d7 hlt, ed]
      rw [ix40, nI_clamp (by omega), nI_m7 hlt, epk] at hw28
      rw [hw28]
      refine ihk (by omega) _ (fun j hj => by rw [up2_n hj]; exact u1 j hj) (fun q hq => by rw [up2_s, vau_n (by omega)]; exact u2 q (by omega)) (fun y h1 h2 => ?_)
      rw [up2_s]
      by_cases hyk : y = k
      · subst hyk; rw [vau_s]
      · rw [vau_n (by omega)]; exact u3 y (by omega) h2
  have := scan (cN c) (Nat.le_refl _) v (fun _ _ => rfl) (fun _ _ => rfl) (fun y h1 h2 => absurd h1 (by omega))
  rw [Nat.sub_self, Nat.pow_zero, Nat.div_one] at this
  exact this
end S76
