/-! aside: can, safe, judge, was, kinds, needed -/
theorem vau_id {α : Type} {f : Nat → α} {i : Nat} : va_up f i (f i) = f := by
  funext k; by_cases h : k = i
  · subst h; rw [vau_s]
  · rw [vau_n h]
theorem vau_u {α : Type} {f : Nat → α} {i : Nat} {v w : α} : va_up (va_up f i v) i w = va_up f i w := by
  funext k; by_cases h : k = i
  · subst h; rw [vau_s, vau_s]
  · rw [vau_n h, vau_n h, vau_n h]
theorem vau_c {α : Type} {f : Nat → α} {i j : Nat} {v w : α} (hij : i ≠ j) : va_up (va_up f i v) j w = va_up (va_up f j w) i v := by
  funext k; by_cases h : k = i
  · subst h; rw [vau_s, vau_n hij, vau_s]
  · by_cases h2 : k = j
    · subst h2; rw [vau_s, vau_n h, vau_s]
    · rw [vau_n h, vau_n h2, vau_n h2, vau_n h]
theorem sty_id {c : Cl} {y : Nat} : sty c y (cW c y) (cS c y) = c := by unfold sty; rw [vau_id, vau_id]
theorem sty_sty {c : Cl} {y : Nat} {a b w s : Int32} : sty (sty c y a b) y w s = sty c y w s := by
  show (cN c, cL c, cT c, va_up (va_up (cW c) y a) y w, va_up (va_up (cS c) y b) y s, cK c, cC c, cEn c, cHW c, cHS c) = _
  rw [vau_u, vau_u]; rfl
theorem sty_c {c : Cl} {y z : Nat} {a b w s : Int32} (h : y ≠ z) : sty (sty c y a b) z w s = sty (sty c z w s) y a b := by
  show (cN c, cL c, cT c, va_up (va_up (cW c) y a) z w, va_up (va_up (cS c) y b) z s, cK c, cC c, cEn c, cHW c, cHS c) = (cN c, cL c, cT c, va_up (va_up (cW c) z w) y a, va_up (va_up (cS c) z s) y b, cK c, cC c, cEn c, cHW c, cHS c)
  rw [vau_c h, vau_c h]
/-- a LAW of another KIND, aside -/
def knC (c : Cl) (k : Nat) (q : Int32) : Cl := (cN c, cL c, cT c, cW c, cS c, va_up (cK c) k q, cC c, cEn c, cHW c, cHS c)
theorem knC_id {c : Cl} {k : Nat} : knC c k (cK c k) = c := by unfold knC; rw [vau_id]
theorem knC_u {c : Cl} {k : Nat} {p q : Int32} : knC (knC c k p) k q = knC c k q := by
  show (cN c, cL c, cT c, cW c, cS c, va_up (va_up (cK c) k p) k q, cC c, cEn c, cHW c, cHS c) = _
  rw [vau_u]; rfl
theorem knC_v {c : Cl} {k : Nat} {q : Int32} (h : wfV c) (hq : vp_in q 6) : wfV (knC c k q) := by
  refine ⟨h.1, h.2.1, fun j hj => ?_⟩
  show vp_in (va_up (cK c) k q j) 6
  by_cases hjk : j = k
  · subst hjk; rw [vau_s]; exact hq
  · rw [vau_n hjk]; exact h.2.2 j hj
theorem sty_v {c : Cl} {y : Nat} {w s : Int32} (h : wfV c) : wfV (sty c y w s) := h
def canT (c : Cl) (y : Nat) : Nat := bb (fun s => decide (brb (sty c y 1 (nI s)) = 0)) 5
def oCan (A : aA) (y : Int32) : Int32 × aA := if inB y (cN (aCu A)) then (if cW (aCu A) (y.toNatClampNeg) = 1 then (-4, A) else (nI (canT (aCu A) (y.toNatClampNeg)), A)) else (-1, A)
def whoT (c : Cl) (y : Nat) : Bool := alF (fun t => decide (brb (sty c y 1 (nI t)) = 0)) 0 5
def safT (c : Cl) (y : Nat) : Nat := bb (fun s => whoT (sty c y 1 (nI s)) (y + 1)) 5
def oSafe (A : aA) (y : Int32) : Int32 × aA := if inB y (cN (aCu A) - 1) then (nI (safT (aCu A) (y.toNatClampNeg)), A) else (-1, A)
def hvB (v : Int32) : Bool := decide (v = -9) || inB v 5
/-- the FINDING that refuses a ROW of what happened; 0: none -/
def hsF (A : aA) (r : Nat) : Nat := if aRs A r = -1 then 1 else if aRs A r = nI (cN (aCu A)) then (if alF (fun y => hvB (aRp A r y)) 0 (cN (aCu A)) then 0 else 3) else 5
def hpAs (c : Cl) (f : Nat → Int32) : Bool := alF (fun x => decide (hap c x = f x)) 0 (cN c)
def wasT (c : Cl) (y : Nat) (f : Nat → Int32) : Nat := bb (fun s => hpAs (sty c y 2 (nI s)) f) 5
def oWas (A : aA) (y r : Int32) : Int32 × aA := if inB y (cN (aCu A)) = true ∧ inB r 6 = true then (if cW (aCu A) (y.toNatClampNeg) = 2 then (if hsF A (r.toNatClampNeg) = 0 then (nI (wasT (aCu A) (y.toNatClampNeg) (aRp A (r.toNatClampNeg))), A) else (-3, tFd A (hsF A (r.toNatClampNeg)))) else (-4, A)) else (-1, A)
def kinT (c : Cl) (k : Nat) (f : Nat → Int32) : Nat := bb (fun q => hpAs (knC c k (nI q)) f) 6
def oKinds (A : aA) (k r : Int32) : Int32 × aA := if inB k (cL (aCu A)) = true ∧ inB r 6 = true then (if hsF A (r.toNatClampNeg) = 0 then (nI (kinT (aCu A) (k.toNatClampNeg) (aRp A (r.toNatClampNeg))), A) else (-3, tFd A (hsF A (r.toNatClampNeg)))) else (-1, A)
def neeT (c : Cl) : Nat := bb (fun k => !hpAs (knC c k 1) (hap c)) (cL c)
def oNeeded (A : aA) : Int32 × aA := (nI (neeT (aCu A)), A)
/-- CHANGES as ROWS tell them -/
def alI (w c : Int32) : Bool := decide (c = 6) || (if w = 1 then decide (c = 5) else decide (0 ≤ c.toInt ∧ c.toInt < 5))
def chWi (w c : Int32) : Int32 := if c = 5 then 2 else if c = 6 then w else 1
def chSi (s c : Int32) : Int32 := if c = 5 then s else if c = 6 then s else c
/-- the first m YEARS changed by a plan -/
def chP (c : Cl) (p : Nat → Int32) (m : Nat) : Cl := (cN c, cL c, cT c, fun y => if y < m then chWi (cW c y) (p y) else cW c y, fun y => if y < m then chSi (cS c y) (p y) else cS c y, cK c, cC c, cEn c, cHW c, cHS c)
theorem chP_0 {c : Cl} {p : Nat → Int32} : chP c p 0 = c := by
  have e1 : (fun y => if y < 0 then chWi (cW c y) (p y) else cW c y) = cW c := by funext y; rw [if_neg (Nat.not_lt_zero _)]
  have e2 : (fun y => if y < 0 then chSi (cS c y) (p y) else cS c y) = cS c := by funext y; rw [if_neg (Nat.not_lt_zero _)]
  unfold chP; rw [e1, e2]
theorem chP_s {c : Cl} {p : Nat → Int32} {m : Nat} : sty (chP c p m) m (chWi (cW c m) (p m)) (chSi (cS c m) (p m)) = chP c p (m + 1) := by
  have e1 : va_up (fun y => if y < m then chWi (cW c y) (p y) else cW c y) m (chWi (cW c m) (p m)) = (fun y => if y < m + 1 then chWi (cW c y) (p y) else cW c y) := by
    funext y; by_cases h : y = m
    · subst h; rw [vau_s, if_pos (by omega)]
    · rw [vau_n h]; by_cases h2 : y < m
      · rw [if_pos h2, if_pos (by omega)]
      · rw [if_neg h2, if_neg (by omega)]
  have e2 : va_up (fun y => if y < m then chSi (cS c y) (p y) else cS c y) m (chSi (cS c m) (p m)) = (fun y => if y < m + 1 then chSi (cS c y) (p y) else cS c y) := by
    funext y; by_cases h : y = m
    · subst h; rw [vau_s, if_pos (by omega)]
    · rw [vau_n h]; by_cases h2 : y < m
      · rw [if_pos h2, if_pos (by omega)]
      · rw [if_neg h2, if_neg (by omega)]
  unfold chP sty; rw [e1, e2]
def oJudge (A : aA) (r : Int32) : Int32 × aA := if inB r 6 then (if cN (aCu A) = 0 then (-4, A) else if aRs A (r.toNatClampNeg) = -1 then (-3, tFd A 1) else if aRs A (r.toNatClampNeg) = nI (cN (aCu A)) then (if alF (fun y => alI (cW (aCu A) y) (aRp A (r.toNatClampNeg) y)) 0 (cN (aCu A)) then (nI (pop (brb (chP (aCu A) (aRp A (r.toNatClampNeg)) (cN (aCu A))))), tAk A (nI (ysS (chP (aCu A) (aRp A (r.toNatClampNeg)) (cN (aCu A)))))) else (-3, tFd A 3)) else (-3, tFd A 5)) else (-1, A)
theorem sh_rw : ∀ r, r < 6 → sh0 (42 + 2 * r + 1) = (0, 40) := by decide
section P36
variable {vi w : Nat → Nat → Int32} {b : Nat} {c : Cl}
theorem V_take {b2 : Nat} (hw : wfV c) (h : ClV c b2 vi) (ht : TakeP vi w b b2) : ClV c b w := by
  obtain ⟨h1, h2, h4, h5⟩ := h
  obtain ⟨-, t1, t2, t3, t4, t5, t6⟩ := ht
  have hn := hw.1
  have hl := hw.2.1
  refine ⟨by rw [t1]; exact h1, by rw [t2]; exact h2, fun y hy => ?_, fun k hk => ?_⟩
  · rw [(t4 y (by omega)).1, (t4 y (by omega)).2]; exact h4 y hy
  · rw [(t5 k (by omega)).1, (t5 k (by omega)).2.1, (t5 k (by omega)).2.2]; exact h5 k hk
theorem V_kn {k : Nat} {q : Int32} (h : ClV c b vi) : ClV (knC c k q) b (up2 vi (b + 3) k q) := by
  obtain ⟨h1, h2, h4, h5⟩ := h
  have o : ∀ j, j ≠ b + 3 → up2 vi (b + 3) k q j = vi j := fun j hj => up2_n hj
  refine ⟨by rw [o b (by omega)]; exact h1, by rw [o b (by omega)]; exact h2, fun y hy => ?_, fun j hj => ?_⟩
  · rw [o _ (by omega), o _ (by omega)]; exact h4 y hy
  · rw [o (b + 4) (by omega), o (b + 5) (by omega), up2_s]
    show _ = va_up (cK c) k q j ∧ _
    by_cases hjk : j = k
    · subst hjk; rw [vau_s, vau_s]; exact ⟨rfl, (h5 j hj).2⟩
    · rw [vau_n hjk, vau_n hjk]; exact h5 j hj
theorem V_ch {y : Nat} {q : Int32} (h : ClV c b vi) (hy : y < cN c) : ClV (sty c y (chWi (cW c y) q) (chSi (cS c y) q)) b (chgM vi b y q) := by
  obtain ⟨h1, h2, h4, h5⟩ := h
  refine ⟨by rw [chgM_o (by omega) (by omega)]; exact h1, by rw [chgM_o (by omega) (by omega)]; exact h2, fun z hz => ?_, fun k hk => ?_⟩
  · show _ = va_up (cW c) y (chWi (cW c y) q) z ∧ _ = va_up (cS c) y (chSi (cS c y) q) z
    by_cases hzy : z = y
    · subst hzy
      rw [vau_s, vau_s]
      unfold chgM setM chWi chSi
      by_cases h5 : q = 5
      · rw [if_pos h5, if_pos h5, if_pos h5, up2_s, vau_s, up2_n (by omega)]; exact ⟨rfl, (h4 z hz).2⟩
      · rw [if_neg h5, if_neg h5, if_neg h5]
        by_cases h6 : q = 6
        · rw [if_pos h6, if_pos h6, if_pos h6]; exact h4 z hz
        · rw [if_neg h6, if_neg h6, if_neg h6, up2_n (show b + 1 ≠ b + 2 by omega), up2_s, up2_s, vau_s, vau_s]; exact ⟨rfl, rfl⟩
    · rw [vau_n hzy, vau_n hzy, chgM_1 hzy, chgM_2 hzy]; exact h4 z hz
  · rw [chgM_o (by omega) (by omega), chgM_o (by omega) (by omega), chgM_o (by omega) (by omega)]; exact h5 k hk
theorem setM_o {y j : Nat} {x s : Int32} (h1 : j ≠ b + 1) (h2 : j ≠ b + 2) : setM vi b y x s j = vi j := by unfold setM; rw [up2_n h2, up2_n h1]
end P36
section S36
variable {X : aX} {d : Nat} {vi : Nat → Nat → Int32} {vl : Nat → Nat → Int64} {post : aO} {A : aA}
theorem a_happensAs {c : Cl} {b a m : Nat} {f : Nat → Int32} (hb : isCl b) (hw : wfV c) (h : ClV c b vi) (hs : setl vi b (cL c) (cN c)) (ha : a < 107) (hsh : sh0 a = (0, m)) (hm : 5 ≤ m) (hm2 : m < 2 ^ 31) (hf : ∀ y, y < cN c → vi a y = f y) (hQ : post (some (.int (bI (hpAs c f)))) (mk vi vl)) : CallOk X (d + 1) 0 0 k_C_happensAs [.ref b, .ref a] (mk vi vl) post := by
  have := hw.1
  refine c_C_happensAs hb h.1 hw.1 ha hsh (by omega) hm2 ?_
  rw [alF_cg (q := fun y => decide (hap c y = f y)) (cN c) 0 (fun y _ hy => by rw [(V_hap hw h hs y (by omega)).1, hf y (by omega)])]
  exact hQ
theorem s_can {y : Int32} (hW : wfA A) (hA : AbC A vi vl) (hQ : PC vi vl post (oCan A y)) : CallOk X (d + 5) 0 0 k_S_can [.ref 0, .int y] (mk vi vl) post := by
  refine CallOk.intro (by decide +kernel) rfl (Nat.le_of_ble_eq_true rfl) ?_
  unfold oCan at hQ
  refine b_S_can_0 ?_
  refine c_S_isYear hA.2.1.1.1 hW.N5 (fun hy => ?_) (fun hy => ?_)
  · rw [inB_t hy, if_pos rfl] at hQ
    have h5' := hW.N5
    obtain ⟨j, hj, rfl⟩ := vp_in_of hy (by omega)
    have cj : (nI j).toNatClampNeg = j := nI_clamp (by omega)
    have vj : vp_in (nI j) 5 := vp_in_nI (by omega) (by omega)
    rw [cj] at hQ
    have ew : vi 4 j = cW (aCu A) j := (hA.2.1.1.2.2.2.1 j hj).1
    by_cases h1 : cW (aCu A) j = 1
    · have g : vi 4 (nI j).toNatClampNeg = 1 := by rw [cj, ew]; exact h1
      rw [if_pos h1] at hQ
      refine b_S_can_5 (fun h5 => b_S_can_10 (by first | assumption | decide | (refine vp_in_nI ?_ ?_ <;> omega) | omega | simp_all) (fun h10 => absurd h10 (by first | decide | assumption | omega | simp_all)) (fun h10 => b_S_can_23 ?_)) (fun h5 => absurd h5 (by first | decide | assumption | omega | simp_all))
      exact hQ _ _ hA smM_rf
    · have g : ¬ vi 4 (nI j).toNatClampNeg = 1 := by rw [cj, ew]; exact h1
      rw [if_neg h1] at hQ
      refine b_S_can_5 (fun h5 => b_S_can_10 (by first | assumption | decide | (refine vp_in_nI ?_ ?_ <;> omega) | omega | simp_all) (fun h10 => b_S_can_26 ?_) (fun h10 => absurd h10 (by first | decide | assumption | omega | simp_all))) (fun h5 => absurd h5 (by first | decide | assumption | omega | simp_all))
      refine c_C_take isCl_14 isCl_3 (by decide) (fun w1 ht => ?_)
      have hv := hW.2.2.1.v
      have hV1 := V_take hv hA.2.1.1.v ht
      refine b_S_can_37 ?_
      have key := loop_up (P := fun s => ∀ w, (∀ q, (q < 14 ∨ 24 < q) → w q = vi q) → (∃ a b, ClV (sty (aCu A) j a b) 14 w) → wp X (d + 5) k_S_can 0 0 41 [some (.ref 0), some (.int (nI j)), some (.int (nI (bb (fun s => decide (brb (sty (aCu A) j 1 (nI s)) = 0)) s))), some (.int (nI s))] [] (mk w vl) post) 5 0 (by decide) ?_ ?_
      · exact key w1 (fun q hq => ht.1 q (by omega)) ⟨_, _, by rw [sty_id]; exact hV1⟩
      · intro w hw _
        have g1 : (5 : Int32) ≤ nI 5 := by decide
        refine b_S_can_41 (fun h41 => b_S_can_86 ?_) (fun h41 => absurd h41 (by first | decide | assumption | omega | simp_all))
        exact hQ _ _ (AbC_scr hW.L8 hA (fun q hq => hw q (by omega))) (smM_of fun q hq => hw q (by omega))
      · intro s _ hs ih w hw hV
        obtain ⟨a, b, hV⟩ := hV
        have g1 : ¬ (5 : Int32) ≤ nI s := nI_ge (a := s) (b := 5) hs (by omega)
        refine b_S_can_41 (fun h41 => absurd h41 (by first | decide | assumption | omega | simp_all)) (fun h41 => b_S_can_46 ?_)
        refine c_C_set isCl_14 (by omega) ?_
        have hV2 := V_set (y := j) (w := 1) (s := nI s) hV
        rw [sty_sty] at hV2
        refine b_S_can_56 ?_
        refine a_settleFrom isCl_14 (sty_v hv) hV2 (fun w2 h2 hv2 hs2 => ?_)
        refine b_S_can_64 ?_
        refine a_brokenLaws isCl_14 (sty_v hv) hv2 hs2 ?_
        have o2 : ∀ q, (q < 14 ∨ 24 < q) → w2 q = vi q := fun q hq => by rw [h2 q (by omega) (by omega), setM_o (by omega) (by omega)]; exact hw q hq
        have ih2 := ih w2 o2 ⟨_, _, hv2⟩
        rw [← bb_st (by omega), ← nI_1] at ih2
        have hb := brb_256 (sty_v (y := j) (w := 1) (s := nI s) hv)
        by_cases h0 : brb (sty (aCu A) j 1 (nI s)) = 0
        · rw [if_pos (decide_eq_true h0)] at ih2
          rw [h0]
          refine b_S_can_71 (fun h71 => absurd h71 (by first | decide | assumption | omega | simp_all)) (fun h71 => b_S_can_74 (b_S_can_80 ?_))
          exact ih2
        · rw [if_neg (fun q => h0 (of_decide_eq_true q)), or_0 _ (Nat.lt_of_lt_of_le (bb_lt _ _) (by have : 2 ^ s ≤ 2 ^ 8 := Nat.pow_le_pow_right (by decide) (by omega); simpa using this))] at ih2
          have g2 : ¬ nI (brb (sty (aCu A) j 1 (nI s))) = 0 := nI_ne0 (by omega) (by omega)
          refine b_S_can_71 (fun h71 => b_S_can_80 ?_) (fun h71 => absurd h71 (by first | decide | assumption | omega | simp_all))
          exact ih2
  · rw [inB_f hy, if_neg (fun q => by cases q)] at hQ
    refine b_S_can_5 (fun h5 => absurd h5 (by first | decide | assumption | omega | simp_all)) (fun h5 => b_S_can_8 ?_)
    exact hQ _ _ hA smM_rf
theorem c_S_isWhole {c : Cl} {y : Nat} (hv : wfV c) (hV : ClV c 14 vi) (hy : y < cN c) (hQ : ∀ w, (∀ q, (q < 14 ∨ 24 < q) → w q = vi q) → (∃ a b, ClV (sty c y a b) 14 w) → post (some (.int (bI (whoT c y)))) (mk w vl)) : CallOk X (d + 5) 0 0 k_S_isWholeWhateverIsSewn [.ref 0, .int (nI y)] (mk vi vl) post := by
  refine CallOk.intro (by decide +kernel) rfl (Nat.le_of_ble_eq_true rfl) ?_
  have h5' := hv.1
  refine b_S_isWholeWhateverIsSewn_0 ?_
  have key := loop_up (P := fun s => ∀ w, (∀ q, (q < 14 ∨ 24 < q) → w q = vi q) → (∃ a b, ClV (sty c y a b) 14 w) → whoT c y = alF (fun t => decide (brb (sty c y 1 (nI t)) = 0)) s (5 - s) → wp X (d + 5) k_S_isWholeWhateverIsSewn 0 0 2 [some (.ref 0), some (.int (nI y)), some (.int (nI s))] [] (mk w vl) post) 5 0 (by decide) ?_ ?_
  · exact key vi (fun _ _ => rfl) ⟨_, _, by rw [sty_id]; exact hV⟩ rfl
  · intro w hw hV he
    have g1 : (5 : Int32) ≤ nI 5 := by decide
    refine b_S_isWholeWhateverIsSewn_2 (fun h2 => b_S_isWholeWhateverIsSewn_43 ?_) (fun h2 => absurd h2 (by first | decide | assumption | omega | simp_all))
    rw [he] at hQ
    exact hQ w hw hV
  · intro s _ hs ih w hw hV he
    obtain ⟨a, b, hV⟩ := hV
    have g1 : ¬ (5 : Int32) ≤ nI s := nI_ge (a := s) (b := 5) hs (by omega)
    rw [show 5 - s = (5 - (s + 1)) + 1 by omega] at he
    simp only [alF] at he
    refine b_S_isWholeWhateverIsSewn_2 (fun h2 => absurd h2 (by first | decide | assumption | omega | simp_all)) (fun h2 => b_S_isWholeWhateverIsSewn_7 ?_)
    refine c_C_set isCl_14 (by omega) ?_
    have hV2 := V_set (y := y) (w := 1) (s := nI s) hV
    rw [sty_sty] at hV2
    refine b_S_isWholeWhateverIsSewn_17 ?_
    refine a_settleFrom isCl_14 (sty_v hv) hV2 (fun w2 h2 hv2 hs2 => ?_)
    refine b_S_isWholeWhateverIsSewn_25 ?_
    refine a_brokenLaws isCl_14 (sty_v hv) hv2 hs2 ?_
    have o2 : ∀ q, (q < 14 ∨ 24 < q) → w2 q = vi q := fun q hq => by rw [h2 q (by omega) (by omega), setM_o (by omega) (by omega)]; exact hw q hq
    have hb := brb_256 (sty_v (y := y) (w := 1) (s := nI s) hv)
    by_cases h0 : brb (sty c y 1 (nI s)) = 0
    · rw [decide_eq_true h0, Bool.true_and] at he
      rw [h0]
      refine b_S_isWholeWhateverIsSewn_32 (fun h32 => b_S_isWholeWhateverIsSewn_37 ?_) (fun h32 => absurd h32 (by first | decide | assumption | omega | simp_all))
      rw [nI_1]
      exact ih w2 o2 ⟨_, _, hv2⟩ he
    · rw [decide_eq_false h0, Bool.false_and] at he
      have g2 : ¬ nI (brb (sty c y 1 (nI s))) = 0 := nI_ne0 (by omega) (by omega)
      refine b_S_isWholeWhateverIsSewn_32 (fun h32 => absurd h32 (by first | decide | assumption | omega | simp_all)) (fun h32 => b_S_isWholeWhateverIsSewn_35 ?_)
      rw [he] at hQ
      exact hQ w2 o2 ⟨_, _, hv2⟩
theorem s_safe {y : Int32} (hW : wfA A) (hA : AbC A vi vl) (hQ : PC vi vl post (oSafe A y)) : CallOk X (d + 6) 0 0 k_S_safe [.ref 0, .int y] (mk vi vl) post := by
  refine CallOk.intro (by decide +kernel) rfl (Nat.le_of_ble_eq_true rfl) ?_
  unfold oSafe at hQ
  have h5' := hW.N5
  have hn : vi 3 0 = nI (cN (aCu A)) := hA.2.1.1.1
  refine b_S_safe_0 ?_
  refine c_S_isYear hA.2.1.1.1 hW.N5 (fun hy => ?_) (fun hy => ?_)
  · obtain ⟨j, hj, rfl⟩ := vp_in_of hy (by omega)
    have cj : (nI j).toNatClampNeg = j := nI_clamp (by omega)
    have e1 : vi 3 0 - 1 = nI (cN (aCu A) - 1) := by rw [hn, show (1 : Int32) = nI 1 from rfl, nI_sub (by omega)]
    have q1 : (nI j = nI (cN (aCu A) - 1)) ↔ j = cN (aCu A) - 1 := nI_eq (by omega) (by omega)
    by_cases hl : j = cN (aCu A) - 1
    · have g : nI j = vi 3 0 - 1 := by rw [e1]; exact q1.mpr hl
      refine b_S_safe_5 (fun h5 => absurd h5 (by first | decide | assumption | omega | simp_all)) (fun h5 => b_S_safe_8 (fun h8 => absurd h8 (by first | decide | assumption | omega | simp_all)) (fun h8 => b_S_safe_21 ?_))
      rw [inB_f (fun q => by have := (vin_nI (by omega)).mp q; omega), if_neg (fun q => by cases q)] at hQ
      exact hQ _ _ hA smM_rf
    · have g : ¬ nI j = vi 3 0 - 1 := by rw [e1]; exact fun q => hl (q1.mp q)
      rw [inB_nI (by omega) (by omega), if_pos rfl, cj] at hQ
      refine b_S_safe_5 (fun h5 => absurd h5 (by first | decide | assumption | omega | simp_all)) (fun h5 => b_S_safe_8 (fun h8 => b_S_safe_23 ?_) (fun h8 => absurd h8 (by first | decide | assumption | omega | simp_all)))
      refine c_C_take isCl_14 isCl_3 (by decide) (fun w1 ht => ?_)
      have hv := hW.2.2.1.v
      have hV1 := V_take hv hA.2.1.1.v ht
      refine b_S_safe_34 ?_
      have key := loop_up (P := fun s => ∀ w, (∀ q, (q < 14 ∨ 24 < q) → w q = vi q) → (∃ a1 b1 a b, ClV (sty (sty (aCu A) (j + 1) a b) j a1 b1) 14 w) → wp X (d + 6) k_S_safe 0 0 38 [some (.ref 0), some (.int (nI j)), some (.int (nI (bb (fun s => whoT (sty (aCu A) j 1 (nI s)) (j + 1)) s))), some (.int (nI s))] [] (mk w vl) post) 5 0 (by decide) ?_ ?_
      · exact key w1 (fun q hq => ht.1 q (by omega)) ⟨_, _, _, _, by rw [sty_id, sty_id]; exact hV1⟩
      · intro w hw _
        have g1 : (5 : Int32) ≤ nI 5 := by decide
        refine b_S_safe_38 (fun h38 => b_S_safe_75 ?_) (fun h38 => absurd h38 (by first | decide | assumption | omega | simp_all))
        exact hQ _ _ (AbC_scr hW.L8 hA (fun q hq => hw q (by omega))) (smM_of fun q hq => hw q (by omega))
      · intro s _ hs ih w hw hV
        obtain ⟨a1, b1, a, b, hV⟩ := hV
        have g1 : ¬ (5 : Int32) ≤ nI s := nI_ge (a := s) (b := 5) hs (by omega)
        refine b_S_safe_38 (fun h38 => absurd h38 (by first | decide | assumption | omega | simp_all)) (fun h38 => b_S_safe_43 ?_)
        refine c_C_set isCl_14 (by omega) ?_
        have hV2 := V_set (y := j) (w := 1) (s := nI s) hV
        rw [sty_sty, sty_c (by omega)] at hV2
        refine b_S_safe_53 ?_
        rw [nI_1]
        refine c_S_isWhole (c := sty (sty (aCu A) j 1 (nI s)) (j + 1) a b) (sty_v (sty_v hv)) hV2 (show j + 1 < cN (aCu A) by omega) (fun w2 h2 hv2 => ?_)
        have ew : whoT (sty (sty (aCu A) j 1 (nI s)) (j + 1) a b) (j + 1) = whoT (sty (aCu A) j 1 (nI s)) (j + 1) := by unfold whoT; simp only [sty_sty]
        rw [ew]
        obtain ⟨a2, b2, hv2⟩ := hv2
        rw [sty_sty, sty_c (by omega)] at hv2
        have o2 : ∀ q, (q < 14 ∨ 24 < q) → w2 q = vi q := fun q hq => by rw [h2 q hq, setM_o (by omega) (by omega)]; exact hw q hq
        have ih2 := ih w2 o2 ⟨_, _, _, _, hv2⟩
        rw [← bb_st (by omega), ← nI_1] at ih2
        cases h0 : whoT (sty (aCu A) j 1 (nI s)) (j + 1)
        · rw [h0, if_neg (fun q => by cases q), or_0 _ (Nat.lt_of_lt_of_le (bb_lt _ _) (by have : 2 ^ s ≤ 2 ^ 8 := Nat.pow_le_pow_right (by decide) (by omega); simpa using this))] at ih2
          refine b_S_safe_60 (fun h60 => b_S_safe_69 ?_) (fun h60 => absurd h60 (by first | decide | assumption | omega | simp_all))
          exact ih2
        · rw [h0, if_pos rfl] at ih2
          refine b_S_safe_60 (fun h60 => absurd h60 (by first | decide | assumption | omega | simp_all)) (fun h60 => b_S_safe_63 (b_S_safe_69 ?_))
          exact ih2
  · rw [inB_f (fun q => hy (by obtain ⟨j, hj, rfl⟩ := vp_in_of q (by omega); exact vp_in_nI (by omega) (by omega))), if_neg (fun q => by cases q)] at hQ
    refine b_S_safe_5 (fun h5 => b_S_safe_21 ?_) (fun h5 => absurd h5 (by first | decide | assumption | omega | simp_all))
    exact hQ _ _ hA smM_rf
theorem c_S_refuseHistory {r : Nat} (hW : wfA A) (hA : AbC A vi vl) (hr : r < 6) (h0 : hsF A r = 0 → post (some (.int 0)) (mk vi vl)) (h1 : ∀ f, hsF A r = f → 1 ≤ f → f ≤ 5 → post (some (.int (-3))) (mk (rfM vi f) vl)) : CallOk X (d + 2) 0 0 k_S_refuseHistory [.ref 0, .int (nI r)] (mk vi vl) post := by
  refine CallOk.intro (by decide +kernel) rfl (Nat.le_of_ble_eq_true rfl) ?_
  have h5' := hW.N5
  have hn : vi 3 0 = nI (cN (aCu A)) := hA.2.1.1.1
  have cr : (nI r).toNatClampNeg = r := nI_clamp (by omega)
  obtain ⟨e1, e2⟩ := hA.1.1 r hr
  unfold hsF at h0 h1
  refine b_S_refuseHistory_0 (by first | assumption | decide | (refine vp_in_nI ?_ ?_ <;> omega) | omega | simp_all) ?_
  rw [cr]
  have hR : isRw (42 + 2 * r) := rows_i hr
  refine c_R_isMissing hR (fun hm => ?_) (fun hm => ?_)
  · refine b_S_refuseHistory_11 (fun h11 => absurd h11 (by first | decide | assumption | omega | simp_all)) (fun h11 => b_S_refuseHistory_14 ?_)
    refine c_S_refuse 1 (by decide) (by decide) ?_
    refine b_S_refuseHistory_19 ?_
    rw [e1] at hm
    exact h1 1 (by rw [if_pos hm]) (by decide) (by decide)
  · rw [e1] at hm
    rw [if_neg hm] at h0 h1
    by_cases hs : aRs A r = nI (cN (aCu A))
    · rw [if_pos hs] at h0 h1
      have g : vi (42 + 2 * r) 1 = vi 3 0 := by rw [e1, hn]; exact hs
      have g' : vi (42 + 2 * r) 1 = nI (cN (aCu A)) := by rw [e1]; exact hs
      refine b_S_refuseHistory_11 (fun h11 => b_S_refuseHistory_20 (by first | assumption | decide | (refine vp_in_nI ?_ ?_ <;> omega) | omega | simp_all) (fun h20 => b_S_refuseHistory_40 ?_) (fun h20 => absurd h20 (by first | decide | assumption | omega | simp_all))) (fun h11 => absurd h11 (by first | decide | assumption | omega | simp_all))
      have key := loop_up (P := fun y => ∀ l4, alF (fun y => hvB (aRp A r y)) 0 (cN (aCu A)) = alF (fun y => hvB (aRp A r y)) y (cN (aCu A) - y) → wp X (d + 2) k_S_refuseHistory 0 0 42 [some (.ref 0), some (.int (nI r)), some (.ref (42 + 2 * r)), some (.int (nI y)), l4] [] (mk vi vl) post) (cN (aCu A)) 0 (Nat.zero_le _) ?_ ?_
      · exact key _ rfl
      · intro l4 he
        rw [Nat.sub_self] at he
        have g1 : vi (42 + 2 * r) 1 ≤ nI (cN (aCu A)) := by rw [g']; exact Int32.le_refl _
        refine b_S_refuseHistory_42 (by first | assumption | decide | (refine vp_in_nI ?_ ?_ <;> omega) | omega | simp_all) (fun h42 => b_S_refuseHistory_85 ?_) (fun h42 => absurd h42 (by first | decide | assumption | omega | simp_all))
        exact h0 (by rw [he]; rfl)
      · intro y _ hy ih l4 he
        have g1 : ¬ vi (42 + 2 * r) 1 ≤ nI y := by rw [g']; exact nI_ge hy (by omega)
        have cy : (nI y).toNatClampNeg = y := nI_clamp (by omega)
        have vy : vp_in (nI y) (rl (42 + 2 * r)) := vp_in_nI (by have := rl_le (42 + 2 * r); omega) (by have := rl_le (42 + 2 * r); omega)
        have ep : vi (42 + 2 * r + 1) y = aRp A r y := by rw [show 42 + 2 * r + 1 = 43 + 2 * r by omega]; exact e2 y (by omega)
        rw [show cN (aCu A) - y = (cN (aCu A) - (y + 1)) + 1 by omega] at he
        simp only [alF] at he
        by_cases h9 : aRp A r y = -9
        · have g2 : vi (42 + 2 * r + 1) (nI y).toNatClampNeg = -9 := by rw [cy, ep]; exact h9
          refine b_S_refuseHistory_42 (by first | assumption | decide | (refine vp_in_nI ?_ ?_ <;> omega) | omega | simp_all) (fun h42 => absurd h42 (by first | decide | assumption | omega | simp_all)) (fun h42 => b_S_refuseHistory_50 (by first | assumption | decide | (refine vp_in_nI ?_ ?_ <;> omega) | omega | simp_all) (by first | assumption | decide | (refine vp_in_nI ?_ ?_ <;> omega) | omega | simp_all) (fun h50 => b_S_refuseHistory_79 ?_) (fun h50 => absurd h50 (by first | decide | assumption | omega | simp_all)))
          rw [nI_1]
          refine ih _ ?_
          rw [he]; unfold hvB; rw [decide_eq_true h9, Bool.true_or, Bool.true_and]
        · have g2 : ¬ vi (42 + 2 * r + 1) (nI y).toNatClampNeg = -9 := by rw [cy, ep]; exact h9
          refine b_S_refuseHistory_42 (by first | assumption | decide | (refine vp_in_nI ?_ ?_ <;> omega) | omega | simp_all) (fun h42 => absurd h42 (by first | decide | assumption | omega | simp_all)) (fun h42 => b_S_refuseHistory_50 (by first | assumption | decide | (refine vp_in_nI ?_ ?_ <;> omega) | omega | simp_all) (by first | assumption | decide | (refine vp_in_nI ?_ ?_ <;> omega) | omega | simp_all) (fun h50 => absurd h50 (by first | decide | assumption | omega | simp_all)) (fun h50 => b_S_refuseHistory_65 ?_))
          rw [cy, ep]
          refine c_S_isScene (fun hsc => ?_) (fun hsc => ?_)
          · refine b_S_refuseHistory_70 (fun h70 => b_S_refuseHistory_79 ?_) (fun h70 => absurd h70 (by first | decide | assumption | omega | simp_all))
            rw [nI_1]
            refine ih _ ?_
            rw [he]; unfold hvB; rw [inB_t hsc, Bool.or_true, Bool.true_and]
          · refine b_S_refuseHistory_70 (fun h70 => absurd h70 (by first | decide | assumption | omega | simp_all)) (fun h70 => b_S_refuseHistory_73 ?_)
            refine c_S_refuse 3 (by decide) (by decide) ?_
            refine b_S_refuseHistory_78 ?_
            have hf : alF (fun y => hvB (aRp A r y)) 0 (cN (aCu A)) = false := by rw [he]; unfold hvB; rw [inB_f hsc, decide_eq_false h9]; rfl
            exact h1 3 (by rw [hf]; rfl) (by decide) (by decide)
    · rw [if_neg hs] at h1
      have g : ¬ vi (42 + 2 * r) 1 = vi 3 0 := by rw [e1, hn]; exact hs
      refine b_S_refuseHistory_11 (fun h11 => b_S_refuseHistory_20 (by first | assumption | decide | (refine vp_in_nI ?_ ?_ <;> omega) | omega | simp_all) (fun h20 => absurd h20 (by first | decide | assumption | omega | simp_all)) (fun h20 => b_S_refuseHistory_34 ?_)) (fun h11 => absurd h11 (by first | decide | assumption | omega | simp_all))
      refine c_S_refuse 5 (by decide) (by decide) ?_
      refine b_S_refuseHistory_39 ?_
      exact h1 5 rfl (by decide) (by decide)
end S36
