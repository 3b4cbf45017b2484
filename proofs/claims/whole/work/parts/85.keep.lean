/-! the state stays as it must be -/
section S85
variable {A : aA}
theorem tRw_W {r : Nat} {s : Int32} {p : Nat → Int32} (hW : wfA A) (h : r < 6 → s = -1 ∨ ∃ n, n ≤ 40 ∧ s = nI n) : wfA (tRw A r s p) := by
  refine ⟨fun q hq => ?_, hW.2⟩
  show va_up (aRs A) r s q = -1 ∨ ∃ n, n ≤ 40 ∧ va_up (aRs A) r s q = nI n
  by_cases hqr : q = r
  · subst hqr; rw [vau_s]; exact h hq
  · rw [vau_n hqr]; exact hW.1 q hq
theorem tTx_W {r : Nat} {s : Int32} {p : Nat → Int32} (hW : wfA A) (h : r < 4 → s = -1 ∨ ∃ n, n ≤ 60 ∧ s = nI n) : wfA (tTx A r s p) := by
  refine ⟨hW.1, fun q hq => ?_, hW.2.2⟩
  show va_up (aTs A) r s q = -1 ∨ ∃ n, n ≤ 60 ∧ va_up (aTs A) r s q = nI n
  by_cases hqr : q = r
  · subst hqr; rw [vau_s]; exact h hq
  · rw [vau_n hqr]; exact hW.2.1 q hq
theorem tCu_W {c : Cl} (hW : wfA A) (h : wfC c) (h0 : cN c = 0 → cL c = 0 ∧ cT c = 0) : wfA (tCu A c) := ⟨hW.1, hW.2.1, h, hW.2.2.2.1, h0⟩
theorem nat_of {n : Int32} {m : Nat} (h0 : ¬ n < 0) (h1 : n.toInt ≤ m) (hm : m < 2 ^ 30) : ∃ j, j ≤ m ∧ n = nI j := by
  have h0 : 0 ≤ n.toInt := by
    have : ¬ n.toInt < (0 : Int32).toInt := fun q => h0 (Int32.lt_iff_toInt_lt.mpr q)
    have e : (0 : Int32).toInt = 0 := by decide
    omega
  have hv : vp_in n (m + 1) := (vp_in_iff).mpr ⟨h0, by omega⟩
  obtain ⟨j, hj, rfl⟩ := vp_in_of hv (by omega)
  exact ⟨j, by omega, rfl⟩
theorem oRow_W {r n : Int32} (hW : wfA A) : wfA (oRow A r n).2 := by
  unfold oRow
  by_cases h : inB r 6 = true ∧ n ≤ 40
  · rw [if_pos h]
    by_cases h0 : n < 0
    · rw [if_pos h0]; exact hW
    · rw [if_neg h0]
      exact tRw_W hW (fun _ => Or.inr (nat_of (m := 40) h0 (by have := Int32.le_iff_toInt_le.mp h.2; have e : (40 : Int32).toInt = 40 := by decide
                                                               omega) (by omega)))
  · rw [if_neg h]; exact hW
theorem oText_W {r n : Int32} (hW : wfA A) : wfA (oText A r n).2 := by
  unfold oText
  by_cases h : inB r 4 = true ∧ n ≤ 60
  · rw [if_pos h]
    by_cases h0 : n < 0
    · rw [if_pos h0]; exact hW
    · rw [if_neg h0]
      exact tTx_W hW (fun _ => Or.inr (nat_of (m := 60) h0 (by have := Int32.le_iff_toInt_le.mp h.2; have e : (60 : Int32).toInt = 60 := by decide
                                                               omega) (by omega)))
  · rw [if_neg h]; exact hW
theorem oAt_W {r i : Int32} (hW : wfA A) : wfA (oAt A r i).2 := by unfold oAt; (repeat' split) <;> exact hW
theorem oLay_W {r i v : Int32} (hW : wfA A) : wfA (oLay A r i v).2 := by
  unfold oLay
  repeat' split
  all_goals first | exact hW | exact tRw_W (A := tAk A _) hW (fun h => hW.1 _ h)
theorem oTear_W {r : Int32} (hW : wfA A) : wfA (oTear A r).2 := by
  unfold oTear
  repeat' split
  all_goals first | exact hW | exact tRw_W hW (fun _ => Or.inl rfl)
theorem oCopy_W {r i to j n : Int32} (hW : wfA A) : wfA (oCopy A r i to j n).2 := by
  unfold oCopy
  repeat' split
  all_goals first | exact hW | exact tRw_W hW (fun h => hW.1 _ h)
theorem oMean_W {r : Int32} (hW : wfA A) : wfA (oMean A r).2 := by unfold oMean; (repeat' split) <;> exact hW
theorem oPut_W {r i v : Int32} (hW : wfA A) : wfA (oPut A r i v).2 := by
  unfold oPut
  repeat' split
  all_goals first | exact hW | exact tTx_W hW (fun h => hW.2.1 _ h)
theorem oFault_W {r : Int32} (hW : wfA A) : wfA (oFault A r).2 := by unfold oFault; (repeat' split) <;> exact hW
theorem prF_2 {f : Nat → Int32} {n : Nat} (hn : n < 2 ^ 30) (h : prF f n = -9) : 2 ≤ ytF f n := by
  unfold prF at h
  have hs := sk_le (f := f) (n := n) (i := 0) (Nat.zero_le _)
  by_cases h1 : sgF f n (sk f n 0) = 121
  · rw [if_pos h1] at h
    by_cases h2 : ytF f n < 2
    · rw [if_pos h2] at h
      exact absurd h (nI_n9 (by unfold y0F; omega))
    · omega
  · rw [if_neg h1] at h
    exact absurd h (nI_n9 (by omega))
theorem oCloth_W {r : Int32} (hW : wfA A) : wfA (oCloth A r).2 := by
  unfold oCloth
  by_cases hr : vp_in r 4
  · rw [inB_t hr, if_pos rfl]
    obtain ⟨j, hj, rfl⟩ := vp_in_of hr (by decide)
    rw [nI_clamp (show j < 2 ^ 31 by omega)]
    rcases hW.2.1 j hj with h | ⟨n, hn, h⟩
    · rw [if_pos h]; exact hW
    · rw [h, nI_clamp (show n < 2 ^ 31 by omega)]
      split
      · exact hW
      · split
        · rename_i hp
          have := prF_2 (by omega) hp
          exact ⟨hW.1, hW.2.1, clT_wf, fun k c hk q => (by cases q), fun (q : ytF (aTp A j) n = 0) => absurd q (by omega)⟩
        · exact hW
  · rw [inB_f hr, if_neg (by decide)]; exact hW
theorem oYear_W {y what : Int32} (hW : wfA A) : wfA (oYear A y what).2 := by unfold oYear; (repeat' split) <;> exact hW
theorem oLaw_W {y what : Int32} (hW : wfA A) : wfA (oLaw A y what).2 := by unfold oLaw; (repeat' split) <;> exact hW
theorem oMark_W {y what : Int32} (hW : wfA A) : wfA (oMark A y what).2 := by unfold oMark; (repeat' split) <;> exact hW
theorem oHappens_W {s : Int32} (hW : wfA A) : wfA (oHappens A s).2 := by unfold oHappens; (repeat' split) <;> exact hW
theorem oBy_W {s : Int32} (hW : wfA A) : wfA (oBy A s).2 := by unfold oBy; (repeat' split) <;> exact hW
theorem oBroken_W (hW : wfA A) : wfA (oBroken A).2 := hW
theorem oEnd_W {k s : Int32} (hW : wfA A) : wfA (oEnd A k s).2 := by
  unfold oEnd
  by_cases h : inB k (cL (aCu A)) = true ∧ inB s 5 = true
  · rw [if_pos h]
    by_cases h0 : 0 < cT (aCu A)
    · rw [if_pos h0]; exact hW
    · rw [if_neg h0]
      obtain ⟨h1, h2, h3, h4, h5, h6⟩ := hW.2.2.1
      have hs : vp_in s 5 := by by_cases q : vp_in s 5
                                · exact q
                                · have := inB_f q; rw [h.2] at this; cases this
      refine tCu_W hW ⟨h1, h2, h3, h4, fun k' hk' => ⟨(h5 k' hk').1, (h5 k' hk').2.1, ?_⟩, h6⟩ hW.2.2.2.2
      show vp_in (va_up (cEn (aCu A)) (k.toNatClampNeg) s k') 5
      by_cases q : k' = k.toNatClampNeg
      · rw [q, vau_s]; exact hs
      · rw [vau_n q]; exact (h5 k' hk').2.2
  · rw [if_neg h]; exact hW
theorem oStc_W {y ch : Nat} (hW : wfA A) (hy : y < cN (aCu A)) (hc : (cW (aCu A) y = 1 ∧ ch = 5) ∨ (¬ cW (aCu A) y = 1 ∧ ch < 5)) : wfA (oStc A y ch).2 := by
  unfold oStc
  by_cases h : cT (aCu A) < 40
  · rw [if_pos h]; exact stc_W hW hy h hc
  · rw [if_neg h]; exact hW
theorem inB_v {x : Int32} {n : Nat} (h : inB x n = true) : vp_in x n := by
  by_cases q : vp_in x n
  · exact q
  · have := inB_f q; rw [h] at this; cases this
theorem oSew_W {y s : Int32} (hW : wfA A) : wfA (oSew A y s).2 := by
  unfold oSew
  split
  · rename_i h
    split
    · exact hW
    · rename_i h1
      exact oStc_W hW (vin_lt (inB_v h.1)) (Or.inr ⟨h1, vin_lt (inB_v h.2)⟩)
  · exact hW
theorem oUnpick_W {y : Int32} (hW : wfA A) : wfA (oUnpick A y).2 := by
  unfold oUnpick
  split
  · rename_i h
    split
    · rename_i h1
      exact oStc_W hW (vin_lt (inB_v h)) (Or.inl ⟨h1, rfl⟩)
    · exact hW
  · exact hW
theorem oUndo_W {m : Int32} (hW : wfA A) : wfA (oUndo A m).2 := by
  unfold oUndo
  split
  · rename_i h
    show wfA (if m.toNatClampNeg < cT (aCu A) then tCu A (unC (aCu A) (m.toNatClampNeg)) else A)
    by_cases h1 : m.toNatClampNeg < cT (aCu A)
    · rw [if_pos h1]
      obtain ⟨a1, a2, a3, a4, a5, a6⟩ := hW.2.2.1
      refine tCu_W hW ⟨a1, a2, show m.toNatClampNeg ≤ 40 by omega, fun y hy => a6 (m.toNatClampNeg) h1 y hy, a5, fun i hi y hy => a6 i (Nat.lt_trans hi h1) y hy⟩ (fun q => ?_)
      have := hW.2.2.2.2 q
      omega
    · rw [if_neg h1]; exact hW
  · exact hW
theorem oKeep_W {k : Int32} (hW : wfA A) : wfA (oKeep A k).2 := by
  unfold oKeep
  split
  · split
    · exact hW
    · rename_i h0
      refine ⟨hW.1, hW.2.1, hW.2.2.1, fun q c hq hc => ?_, hW.2.2.2.2⟩
      have hc : va_up (aKp A) (k.toNatClampNeg) (some (aCu A)) q = some c := hc
      by_cases hqk : q = k.toNatClampNeg
      · rw [hqk, vau_s] at hc
        cases hc
        exact ⟨hW.2.2.1, by omega⟩
      · rw [vau_n hqk] at hc
        exact hW.2.2.2.1 q c hq hc
  · exact hW
theorem oOn_W {k : Int32} (hW : wfA A) : wfA (oOn A k).2 := by
  unfold oOn
  by_cases h : inB k 3 = true
  · rw [if_pos h]
    cases hk : aKp A (k.toNatClampNeg) with
    | none => exact hW
    | some c =>
      obtain ⟨h1, h2⟩ := hW.2.2.2.1 (k.toNatClampNeg) c (vin_lt (inB_v h)) hk
      exact tCu_W hW h1 (fun q => by omega)
  · rw [if_neg h]; exact hW
theorem oCan_W {y : Int32} (hW : wfA A) : wfA (oCan A y).2 := by unfold oCan; (repeat' split) <;> exact hW
theorem oSafe_W {y : Int32} (hW : wfA A) : wfA (oSafe A y).2 := by unfold oSafe; (repeat' split) <;> exact hW
theorem oWas_W {y r : Int32} (hW : wfA A) : wfA (oWas A y r).2 := by unfold oWas; (repeat' split) <;> exact hW
theorem oKinds_W {y r : Int32} (hW : wfA A) : wfA (oKinds A y r).2 := by unfold oKinds; (repeat' split) <;> exact hW
theorem oNeeded_W (hW : wfA A) : wfA (oNeeded A).2 := hW
theorem oJudge_W {r : Int32} (hW : wfA A) : wfA (oJudge A r).2 := by unfold oJudge; (repeat' split) <;> exact hW
theorem oFew_W {wan : Nat → Int32} {r : Nat} (hW : wfA A) : wfA (oFew A wan r).2 := by
  cases h : fewF (num (aCu A) wan true false) (cN (aCu A) + 1) 0 with
  | none => rw [oFew_n h]; exact hW
  | some m => rw [oFew_s h]; exact tRw_W hW (fun _ => Or.inr ⟨cN (aCu A), by have := hW.N5; omega, rfl⟩)
theorem oLeast_W {s y r : Int32} (hW : wfA A) : wfA (oLeast A s y r).2 := by unfold oLeast; split <;> first | exact hW | exact oFew_W hW
theorem oAvert_W {s r : Int32} (hW : wfA A) : wfA (oAvert A s r).2 := by
  unfold oAvert
  split
  · split
    · exact hW
    · exact oFew_W hW
  · exact hW
theorem oWays_W {s y n : Int32} (hW : wfA A) : wfA (oWays A s y n).2 := by unfold oWays; split <;> exact hW
theorem oOdds_W {s y : Int32} (hW : wfA A) : wfA (oOdds A s y).2 := by unfold oOdds; split <;> exact hW
theorem oForged_W {r : Int32} (hW : wfA A) : wfA (oForged A r).2 := by
  unfold oForged
  split
  · split
    · exact hW
    · split <;> exact hW
  · exact hW
theorem lotR_wf : ∀ (n : Nat) (c : Cl) (x : Nat), wfC c → cT c + n ≤ 40 → 0 < cN c → wfC (lotR n c x) ∧ cN (lotR n c x) = cN c
  | 0, c, x, h, _, _ => ⟨h, rfl⟩
  | n + 1, c, x, h, ht, h0 => by
    have hy : lotX x % cN c < cN c := Nat.mod_lt _ h0
    have hc : (cW c (lotX x % cN c) = 1 ∧ (if cW c (lotX x % cN c) = 1 then 5 else lotX x / 32 % 5) = 5) ∨ (¬ cW c (lotX x % cN c) = 1 ∧ (if cW c (lotX x % cN c) = 1 then 5 else lotX x / 32 % 5) < 5) := by
      by_cases h1 : cW c (lotX x % cN c) = 1
      · exact Or.inl ⟨h1, if_pos h1⟩
      · exact Or.inr ⟨h1, by rw [if_neg h1]; exact Nat.mod_lt _ (by decide)⟩
    have hw : wfC (lotS c (lotX x)) := stc_wf h (by omega) hc hy
    exact lotR_wf n (lotS c (lotX x)) (lotX x) hw (show cT c + 1 + n ≤ 40 by omega) h0
theorem oLots_W {n s : Int32} (hW : wfA A) : wfA (oLots A n s).2 := by
  unfold oLots
  split
  · split
    · exact hW
    · rename_i h0
      split
      · exact hW
      · rename_i h1
        obtain ⟨a, b⟩ := lotR_wf (n.toNatClampNeg) (aCu A) (s.toNatClampNeg) hW.2.2.1 (by omega) (by omega)
        exact tCu_W hW a (fun q => by rw [b] at q; exact absurd q h0)
  · exact hW
theorem oFindings_W {f : Int32} (hW : wfA A) : wfA (oFindings A f).2 := by unfold oFindings; split <;> exact hW
end S85
