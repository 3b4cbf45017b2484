/-! a CLOTH's cells as a view; the calls on it -/
def ClV (c : Cl) (b : Nat) (vi : Nat → Nat → Int32) : Prop :=
  vi b 0 = nI (cN c) ∧ vi b 3 = nI (cL c) ∧ (∀ y, y < cN c → vi (b + 1) y = cW c y ∧ vi (b + 2) y = cS c y) ∧ ∀ k, k < cL c → vi (b + 3) k = cK c k ∧ vi (b + 4) k = cC c k ∧ vi (b + 5) k = cEn c k
def wfV (c : Cl) : Prop := cN c ≤ 5 ∧ cL c ≤ 8 ∧ ∀ k, k < cL c → vp_in (cK c k) 6
theorem ClC.v {c : Cl} {b : Nat} {vi : Nat → Nat → Int32} (h : ClC c b vi) : ClV c b vi := ⟨h.1, h.2.1, h.2.2.2.1, h.2.2.2.2.1⟩
theorem wfC.v {c : Cl} (h : wfC c) : wfV c := ⟨h.1, h.2.1, fun k hk => (h.2.2.2.2.1 k hk).1⟩
theorem ClV_fr {c : Cl} {b : Nat} {vi w : Nat → Nat → Int32} (h : ClV c b vi) (hw : ∀ j, b ≤ j → j ≤ b + 5 → w j = vi j) : ClV c b w := by
  obtain ⟨h1, h2, h4, h5⟩ := h
  have e : ∀ j, j ≤ 5 → w (b + j) = vi (b + j) := fun j hj => hw _ (by omega) (by omega)
  refine ⟨by rw [hw b (by omega) (by omega)]; exact h1, by rw [hw b (by omega) (by omega)]; exact h2, fun y hy => ?_, fun k hk => ?_⟩
  · rw [e 1 (by decide), e 2 (by decide)]; exact h4 y hy
  · rw [e 3 (by decide), e 4 (by decide), e 5 (by decide)]; exact h5 k hk
theorem V_hap {c : Cl} {b : Nat} {vi : Nat → Nat → Int32} (hw : wfV c) (h : ClV c b vi) (hs : setl vi b (cL c) (cN c)) : ∀ y, y < cN c → vi (b + 9) y = hap c y ∧ vi (b + 10) y = mak c y := by
  have h1 : ∀ y, y < cN c → vi (b + 9) y = hap c y := by
    refine hapF_uniq hw.2.1 (fun y hy => ?_)
    rw [(hs y hy).1]
    exact hpF_cg hw.2.1 (h.2.2.1 y hy).1 (h.2.2.1 y hy).2 (fun k hk => (h.2.2.2 k hk).1) (fun k hk => (h.2.2.2 k hk).2.1) (fun k hk => (h.2.2.2 k hk).2.2) (fun _ _ => rfl)
  intro y hy
  refine ⟨h1 y hy, ?_⟩
  rw [(hs y hy).2]
  exact mkF_cg (h.2.2.1 y hy).1 (h.2.2.1 y hy).2 (fun k hk => (h.2.2.2 k hk).1) (fun k hk => (h.2.2.2 k hk).2.1) (fun j hj => h1 j (by omega))
theorem brk_cg {K K' C C' E E' H H' : Nat → Int32} {n k : Nat} (hK : K k = K' k) (hC : C k = C' k) (hE : E k = E' k) (hH : ∀ x, x < n → H x = H' x) : brk K C E H n k = brk K' C' E' H' n k := by
  unfold brk
  exact exF_cg _ _ (fun y h1 h2 => brIn_cg hK hC hE (fun x hx => hH x (by omega)))
theorem V_bro {c : Cl} {b k : Nat} {vi : Nat → Nat → Int32} (hw : wfV c) (h : ClV c b vi) (hs : setl vi b (cL c) (cN c)) (hk : k < cL c) : brk (vi (b + 3)) (vi (b + 4)) (vi (b + 5)) (vi (b + 9)) (cN c) k = bro c k :=
  brk_cg (h.2.2.2 k hk).1 (h.2.2.2 k hk).2.1 (h.2.2.2 k hk).2.2 (fun x hx => (V_hap hw h hs x hx).1)
theorem V_kd {c : Cl} {b : Nat} {vi : Nat → Nat → Int32} (hw : wfV c) (h : ClV c b vi) : ∀ k, k < cL c → vp_in (vi (b + 3) k) 6 := fun k hk => by rw [(h.2.2.2 k hk).1]; exact hw.2.2 k hk
theorem brb_256 {c : Cl} (hw : wfV c) : brb c < 256 := Nat.lt_of_lt_of_le (bb_lt _ _) (by have : 2 ^ cL c ≤ 2 ^ 8 := Nat.pow_le_pow_right (by decide) hw.2.1; simpa using this)
theorem fyA_cg {C C' E E' H H' : Nat → Int32} {n m : Nat} (hH : ∀ x, x < n → H x = H' x) : ∀ L, (∀ k, k < L → C k = C' k) → (∀ k, k < L → E k = E' k) → fyA C E H n m L = fyA C' E' H' n m L
  | 0, _, _ => rfl
  | L + 1, hC, hE => by
    simp only [fyA]
    rw [fyA_cg hH L (fun k hk => hC k (by omega)) (fun k hk => hE k (by omega)), hC L (by omega), hE L (by omega)]
    rw [bb_cg (p := fun y => decide (H y = C' L)) (q := fun y => decide (H' y = C' L)) n (fun y hy => by rw [hH y hy])]
    rw [bb_cg (p := fun y => decide (H y = E' L)) (q := fun y => decide (H' y = E' L)) n (fun y hy => by rw [hH y hy])]
section S32
variable {X : aX} {d : Nat} {vi : Nat → Nat → Int32} {vl : Nat → Nat → Int64} {post : aO} {c : Cl} {b : Nat}
theorem a_yearsWith {s : Int32} (hb : isCl b) (hw : wfV c) (h : ClV c b vi) (hs : setl vi b (cL c) (cN c)) (hQ : post (some (.int (nI (ysW c s)))) (mk vi vl)) : CallOk X (d + 1) 0 0 k_C_yearsWith [.ref b, .int s] (mk vi vl) post := by
  refine c_C_yearsWith hb h.1 hw.1 ?_
  rw [bb_cg (q := fun y => decide (hap c y = s)) (cN c) (fun y hy => by rw [(V_hap hw h hs y hy).1])]
  exact hQ
theorem a_yearsThatAre {s : Int32} (hb : isCl b) (hw : wfV c) (h : ClV c b vi) (hQ : post (some (.int (nI (ysT c s)))) (mk vi vl)) : CallOk X (d + 1) 0 0 k_C_yearsThatAre [.ref b, .int s] (mk vi vl) post := by
  refine c_C_yearsThatAre hb h.1 hw.1 ?_
  rw [bb_cg (q := fun y => decide (cW c y = s)) (cN c) (fun y hy => by rw [(h.2.2.1 y hy).1])]
  exact hQ
theorem a_yearsWithSomething (hb : isCl b) (hw : wfV c) (h : ClV c b vi) (hs : setl vi b (cL c) (cN c)) (hQ : post (some (.int (nI (ysS c)))) (mk vi vl)) : CallOk X (d + 2) 0 0 k_C_yearsWithSomething [.ref b] (mk vi vl) post := by
  refine c_C_yearsWithSomething hb h.1 hw.1 ?_
  rw [bb_cg (q := fun y => !decide (hap c y = -9)) (cN c) (fun y hy => by rw [(V_hap hw h hs y hy).1])]
  exact hQ
theorem a_isBroken {k : Nat} (hb : isCl b) (hw : wfV c) (h : ClV c b vi) (hs : setl vi b (cL c) (cN c)) (hk : k < cL c) (hQ : post (some (.int (bI (bro c k)))) (mk vi vl)) : CallOk X (d + 3) 0 0 k_C_isBroken [.ref b, .int (nI k)] (mk vi vl) post := by
  have := hw.2.1
  refine c_C_isBroken hb h.1 hw.1 (by omega) (V_kd hw h k hk) ?_
  rw [V_bro hw h hs hk]
  exact hQ
theorem a_brokenLaws (hb : isCl b) (hw : wfV c) (h : ClV c b vi) (hs : setl vi b (cL c) (cN c)) (hQ : post (some (.int (nI (brb c)))) (mk vi vl)) : CallOk X (d + 4) 0 0 k_C_brokenLaws [.ref b] (mk vi vl) post := by
  refine c_C_brokenLaws hb h.1 hw.1 h.2.1 hw.2.1 (V_kd hw h) ?_
  rw [bb_cg (q := bro c) (cL c) (fun k hk => V_bro hw h hs hk)]
  exact hQ
theorem a_firstYearOf (hb : isCl b) (hw : wfV c) (h : ClV c b vi) (hs : setl vi b (cL c) (cN c)) (hQ : post (some (.int (if fyC c = 0 then -9 else nI (tzN (fyC c))))) (mk vi vl)) : CallOk X (d + 2) 0 0 k_C_firstYearOf [.ref b, .int (nI (brb c))] (mk vi vl) post := by
  refine c_C_firstYearOf hb h.1 hw.1 h.2.1 hw.2.1 (brb_256 hw) ?_
  have e : fyA (vi (b + 4)) (vi (b + 5)) (vi (b + 9)) (cN c) (brb c) (cL c) = fyC c := fyA_cg (fun x hx => (V_hap hw h hs x hx).1) _ (fun k hk => (h.2.2.2 k hk).2.1) (fun k hk => (h.2.2.2 k hk).2.2)
  rw [e]
  exact hQ
theorem a_settleFrom (hb : isCl b) (hw : wfV c) (h : ClV c b vi) (hQ : ∀ w, (∀ j, j ≠ b + 9 → j ≠ b + 10 → w j = vi j) → ClV c b w → setl w b (cL c) (cN c) → post none (mk w vl)) : CallOk X (d + 4) 0 0 k_C_settleFrom [.ref b, .int 0] (mk vi vl) post := by
  refine c_C_settleFrom (i := 0) hb h.1 hw.1 h.2.1 hw.2.1 (Nat.zero_le _) (fun y hy => absurd hy (by omega)) (fun w h1 h2 => hQ w h1 (ClV_fr h (fun j a b => h1 j (by omega) (by omega))) h2)
theorem V_set {y : Nat} {w s : Int32} (h : ClV c b vi) : ClV (sty c y w s) b (setM vi b y w s) := by
  obtain ⟨h1, h2, h4, h5⟩ := h
  have o : ∀ j, j ≠ b + 1 → j ≠ b + 2 → setM vi b y w s j = vi j := fun j a b => by unfold setM; rw [up2_n b, up2_n a]
  have s1 : setM vi b y w s (b + 1) = va_up (vi (b + 1)) y w := by unfold setM; rw [up2_n (by omega), up2_s]
  have s2 : setM vi b y w s (b + 2) = va_up (vi (b + 2)) y s := by unfold setM; rw [up2_s, up2_n (by omega)]
  refine ⟨by rw [o b (by omega) (by omega)]; exact h1, by rw [o b (by omega) (by omega)]; exact h2, fun z hz => ?_, fun k hk => ?_⟩
  · rw [s1, s2]
    show _ = va_up (cW c) y w z ∧ _ = va_up (cS c) y s z
    by_cases hzy : z = y
    · subst hzy; rw [vau_s, vau_s, vau_s, vau_s]; exact ⟨rfl, rfl⟩
    · rw [vau_n hzy, vau_n hzy, vau_n hzy, vau_n hzy]; exact h4 z hz
  · rw [o _ (by omega) (by omega), o _ (by omega) (by omega), o _ (by omega) (by omega)]; exact h5 k hk
theorem ClC_take {b2 : Nat} {w : Nat → Nat → Int32} (hw : wfC c) (h : ClC c b2 vi) (ht : TakeP vi w b b2) : ClC c b w := by
  obtain ⟨h1, h2, h3, h4, h5, h6⟩ := h
  obtain ⟨-, t1, t2, t3, t4, t5, t6⟩ := ht
  have hn := hw.1
  have hl := hw.2.1
  have hs := hw.2.2.1
  refine ⟨by rw [t1]; exact h1, by rw [t2]; exact h2, by rw [t3]; exact h3, fun y hy => ?_, fun k hk => ?_, fun i hi => ?_⟩
  · rw [(t4 y (by omega)).1, (t4 y (by omega)).2]; exact h4 y hy
  · rw [(t5 k (by omega)).1, (t5 k (by omega)).2.1, (t5 k (by omega)).2.2]; exact h5 k hk
  · rw [(t6 i (by omega)).1, (t6 i (by omega)).2.1, (t6 i (by omega)).2.2]; exact h6 i hi
end S32
