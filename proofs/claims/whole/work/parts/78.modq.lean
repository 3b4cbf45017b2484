/-! the reference: fewest -/
section S78
variable {X : aX} {d : Nat} {vi : Nat → Nat → Int32} {vl : Nat → Nat → Int64} {post : aO} {A : aA} {c : Cl} {f g : Nat → Int32}
def cnd (s y : Int32) (c : Cl) : Bool := if y = -9 then decide (ysW c s = 0) else decide (hap c (y.toNatClampNeg) = s)
def fwG (c : Cl) (s y : Int32) (code : Nat) : Bool := alF (fun y => alC (cW c y) (dgc (cN c) code y)) 0 (cN c) && (decide (brb (plC c (dgc (cN c) code) (cN c)) = 0) && cnd s y (plC c (dgc (cN c) code) (cN c)))
def fwC (c : Cl) (code : Nat) : Nat := ctP (dgc (cN c) code) (cN c)
theorem asd_18 {w : Nat → Nat → Int32} {v : Int32} (h : asd vi w) : asd vi (up2 w 95 18 v) :=
  ⟨fun j a b c d e => by rw [up2_n a]; exact h.1 j a b c d e, fun k hk => by rw [up2_s, vau_n hk]; exact h.2.1 k hk, fun k hk => by rw [up2_n (by decide)]; exact h.2.2.1 k hk, fun k a b => by rw [up2_n (by decide)]; exact h.2.2.2 k a b⟩
theorem c_M_fewest {s y : Int32} (hw : wfP c) (hV : MV c 0 (vi 96)) (h16 : vi 95 16 = -9) (hm : y = -9 ∨ ∃ j, j < cN c ∧ y = nI j) (hQ : ∀ w, asd vi w → (∀ k, k < 36 → w 96 k = vi 96 k) → ((bsT (fwG c s y) (fwC c) (7 ^ cN c)).1 < 1000000 → w 95 18 = nI (bsT (fwG c s y) (fwC c) (7 ^ cN c)).2) → post (some (.int (nI (bsT (fwG c s y) (fwC c) (7 ^ cN c)).1))) (mk w vl)) : CallOk X (d + 5) 0 0 k_M_fewest [.ref 95, .int s, .int y] (mk vi vl) post := by
  refine CallOk.intro (by decide +kernel) rfl (Nat.le_of_ble_eq_true rfl) ?_
  have hn5 := hw.1.1
  have h7 := pow7_le hn5
  have hbd : ∀ k, (bsT (fwG c s y) (fwC c) k).1 ≤ 1000000 := fun k => by
    rcases bsT_in (G := fwG c s y) (ct := fwC c) k with q | q
    · omega
    · have : fwC c (bsT (fwG c s y) (fwC c) k).2 ≤ cN c := cn_le _ _
      omega
  refine b_M_fewest_0 ?_
  refine c_M_plans hw.1 hV ?_
  refine b_M_fewest_7 ?_
  refine c_M_lays (fun u0 ha0 h00 => ?_)
  refine b_M_fewest_13 ?_
  have key := loop_up (P := fun k => ∀ w l6 l7, asd vi w → (∀ q, q < 36 → w 96 q = vi 96 q) → ((bsT (fwG c s y) (fwC c) k).1 < 1000000 → w 95 18 = nI (bsT (fwG c s y) (fwC c) k).2) → wp X (d + 5) k_M_fewest 0 0 16 [some (.ref 95), some (.int s), some (.int y), some (.int (nI (bsT (fwG c s y) (fwC c) k).1)), some (.int (nI (7 ^ cN c))), some (.int (nI k)), l6, l7] [] (mk w vl) post) (7 ^ cN c) 0 (Nat.zero_le _) ?_ ?_
  · exact key u0 _ _ ha0 h00 (fun q => absurd (show 1000000 < 1000000 from q) (by decide))
  · intro w l6 l7 ha h0 hb
    have g1 : ¬ ¬ nI (7 ^ cN c) ≤ nI (7 ^ cN c) := fun q => q (Int32.le_refl _)
    refine b_M_fewest_16 (fun h16 => b_M_fewest_135 ?_) (fun h16 => absurd h16 (by first | decide | assumption | omega | simp_all))
    exact hQ w ha h0 hb
  · intro code _ hcode ih w l6 l7 ha h0 hb
    have g1 : ¬ nI (7 ^ cN c) ≤ nI code := nI_ge hcode (by omega)
    have hVw : MV c 0 (w 96) := MV_fr hw.1 hV (fun k _ hk => h0 k (by omega))
    have hbk := hbd code
    refine b_M_fewest_16 (fun h16 => absurd h16 (by first | decide | assumption | omega | simp_all)) (fun h16 => b_M_fewest_23 ?_)
    sorry
end S78
