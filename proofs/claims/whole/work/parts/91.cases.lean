/-! the cases of the law -/
section S91
variable {X : aX} {d : Nat} {vi : Nat → Nat → Int32} {vl : Nat → Nat → Int64} {post : aO} {A : aA} {i : Nat}
theorem AbM_s {w : Nat → Nat → Int32} {wl : Nat → Nat → Int64} (h : AbM A vi vl) (hs : smM vi w vl wl) : AbM A w wl := by
  obtain ⟨h1, h2⟩ := hs
  unfold AbM RwM TxM CuM KpM FdM TlM at h ⊢
  rw [h1 95 (by decide), h1 96 (by decide), h1 97 (by decide), h1 98 (by decide), h1 99 (by decide), h1 100 (by decide), h1 101 (by decide), h1 103 (by decide), h2 95 (by decide)]
  exact h
theorem AbC_s {w : Nat → Nat → Int32} {wl : Nat → Nat → Int64} (hW : wfA A) (h : AbC A vi vl) (hs : smC vi w vl wl) : AbC A w wl := by
  obtain ⟨h1, h2⟩ := hs
  rw [AbC_iff] at h ⊢
  obtain ⟨a1, a2, a3, a4, a5⟩ := h
  exact ⟨RwC_fr a1 (fun j _ _ => h1 j (by omega)) rfl rfl rfl rfl, CuC_fr hW.L8 a2 (fun j _ _ => h1 j (by omega)) rfl, KpC_fr a3 (fun j _ _ => h1 j (by omega)) rfl, FdC_fr a4 (by rw [h1 0 (by decide)]) (h1 41 (by decide)) rfl rfl, ⟨by rw [h1 0 (by decide)]; exact a5.1, by rw [h2 0 (by decide)]; exact a5.2.1, by rw [h2 0 (by decide)]; exact a5.2.2⟩⟩
theorem lc_rf {x : Int64} : lg_cmp x x = 0 := by
  unfold lg_cmp; simp
/-- what a case comes to -/
def Nxt (X : aX) (d i : Nat) (post : aO) : Prop := ∀ A w wl, wfA A → AbC A w wl → AbM A w wl → wp X (d + 14) k_L_law 0 0 1338 [some (.ref 1000000), some (.ref 0), some (.ref 95), some (.int (nI i))] [] (mk w wl) post
theorem scr_in {k : Nat} (hb : i + 6 ≤ X.1) (hX : X.1 ≤ 384) (hk : k < 6) : vp_in (nI i + nI k) X.1 := by
  rw [nI_add]; exact vp_in_nI (by omega) (by omega)
theorem law_0 (hW : wfA A) (hC : AbC A vi vl) (hM : AbM A vi vl) (hb : i + 6 ≤ X.1) (hX : X.1 ≤ 384) (kk : Nxt X d i post) : wp X (d + 14) k_L_law 0 0 212 [some (.ref 1000000), some (.ref 0), some (.ref 95), some (.int (nI i))] [] (mk vi vl) post := by
  have v1 : vp_in (nI i + 1) X.1 := scr_in (k := 1) hb hX (by decide)
  have v2 : vp_in (nI i + 2) X.1 := scr_in (k := 2) hb hX (by decide)
  refine b_L_law_212 (by first | assumption | decide | (refine vp_in_nI ?_ ?_ <;> omega) | omega | simp_all) (by first | assumption | decide | (refine vp_in_nI ?_ ?_ <;> omega) | omega | simp_all) ?_
  refine s_row hW hC (fun w wl hC2 hs => ?_)
  refine b_L_law_226 (by first | assumption | decide | (refine vp_in_nI ?_ ?_ <;> omega) | omega | simp_all) (by first | assumption | decide | (refine vp_in_nI ?_ ?_ <;> omega) | omega | simp_all) ?_
  refine m_row hW (AbM_s hM hs) (fun w2 wl2 hM2 hs2 => ?_)
  have gne : ∀ z : Int32, ¬ ¬ z = z := fun z q => q rfl
  refine b_L_law_240 (fun h240 => ?_) (fun h240 => absurd h240 (by first | decide | assumption | omega | simp_all))
  exact kk _ _ _ (oRow_W hW) (AbC_s (oRow_W hW) hC2 hs2) hM2
theorem law_1 (hW : wfA A) (hC : AbC A vi vl) (hM : AbM A vi vl) (hb : i + 6 ≤ X.1) (hX : X.1 ≤ 384) (kk : Nxt X d i post) : wp X (d + 14) k_L_law 0 0 245 [some (.ref 1000000), some (.ref 0), some (.ref 95), some (.int (nI i))] [] (mk vi vl) post := by
  have v1 : vp_in (nI i + 1) X.1 := scr_in (k := 1) hb hX (by decide)
  have v2 : vp_in (nI i + 2) X.1 := scr_in (k := 2) hb hX (by decide)
  have v3 : vp_in (nI i + 3) X.1 := scr_in (k := 3) hb hX (by decide)
  refine b_L_law_245 (by first | assumption | decide | (refine vp_in_nI ?_ ?_ <;> omega) | omega | simp_all) (by first | assumption | decide | (refine vp_in_nI ?_ ?_ <;> omega) | omega | simp_all) (by first | assumption | decide | (refine vp_in_nI ?_ ?_ <;> omega) | omega | simp_all) ?_
  refine s_lay hW hC (fun w wl hC2 hs => ?_)
  refine b_L_law_264 (by first | assumption | decide | (refine vp_in_nI ?_ ?_ <;> omega) | omega | simp_all) (by first | assumption | decide | (refine vp_in_nI ?_ ?_ <;> omega) | omega | simp_all) (by first | assumption | decide | (refine vp_in_nI ?_ ?_ <;> omega) | omega | simp_all) ?_
  refine m_lay hW (AbM_s hM hs) (fun w2 wl2 hM2 hs2 => ?_)
  have gne : ∀ z : Int32, ¬ ¬ z = z := fun z q => q rfl
  refine b_L_law_283 (fun h283 => ?_) (fun h283 => absurd h283 (by first | decide | assumption | omega | simp_all))
  exact kk _ _ _ (oLay_W hW) (AbC_s (oLay_W hW) hC2 hs2) hM2
theorem law_2 (hW : wfA A) (hC : AbC A vi vl) (hM : AbM A vi vl) (hb : i + 6 ≤ X.1) (hX : X.1 ≤ 384) (kk : Nxt X d i post) : wp X (d + 14) k_L_law 0 0 288 [some (.ref 1000000), some (.ref 0), some (.ref 95), some (.int (nI i))] [] (mk vi vl) post := by
  have v1 : vp_in (nI i + 1) X.1 := scr_in (k := 1) hb hX (by decide)
  have v2 : vp_in (nI i + 2) X.1 := scr_in (k := 2) hb hX (by decide)
  refine b_L_law_288 (by first | assumption | decide | (refine vp_in_nI ?_ ?_ <;> omega) | omega | simp_all) (by first | assumption | decide | (refine vp_in_nI ?_ ?_ <;> omega) | omega | simp_all) ?_
  refine s_at hW hC (fun w wl hC2 hs => ?_)
  refine b_L_law_302 (by first | assumption | decide | (refine vp_in_nI ?_ ?_ <;> omega) | omega | simp_all) (by first | assumption | decide | (refine vp_in_nI ?_ ?_ <;> omega) | omega | simp_all) ?_
  refine m_at hW (AbM_s hM hs) (fun w2 wl2 hM2 hs2 => ?_)
  have gne : ∀ z : Int32, ¬ ¬ z = z := fun z q => q rfl
  refine b_L_law_316 (fun h316 => ?_) (fun h316 => absurd h316 (by first | decide | assumption | omega | simp_all))
  exact kk _ _ _ (oAt_W hW) (AbC_s (oAt_W hW) hC2 hs2) hM2
theorem law_3 (hW : wfA A) (hC : AbC A vi vl) (hM : AbM A vi vl) (hb : i + 6 ≤ X.1) (hX : X.1 ≤ 384) (kk : Nxt X d i post) : wp X (d + 14) k_L_law 0 0 321 [some (.ref 1000000), some (.ref 0), some (.ref 95), some (.int (nI i))] [] (mk vi vl) post := by
  have v1 : vp_in (nI i + 1) X.1 := scr_in (k := 1) hb hX (by decide)
  refine b_L_law_321 (by first | assumption | decide | (refine vp_in_nI ?_ ?_ <;> omega) | omega | simp_all) ?_
  refine s_tear hW hC (fun w wl hC2 hs => ?_)
  refine b_L_law_330 (by first | assumption | decide | (refine vp_in_nI ?_ ?_ <;> omega) | omega | simp_all) ?_
  refine m_tear hW (AbM_s hM hs) (fun w2 wl2 hM2 hs2 => ?_)
  have gne : ∀ z : Int32, ¬ ¬ z = z := fun z q => q rfl
  refine b_L_law_339 (fun h339 => ?_) (fun h339 => absurd h339 (by first | decide | assumption | omega | simp_all))
  exact kk _ _ _ (oTear_W hW) (AbC_s (oTear_W hW) hC2 hs2) hM2
theorem law_4 (hW : wfA A) (hC : AbC A vi vl) (hM : AbM A vi vl) (hb : i + 6 ≤ X.1) (hX : X.1 ≤ 384) (kk : Nxt X d i post) : wp X (d + 14) k_L_law 0 0 344 [some (.ref 1000000), some (.ref 0), some (.ref 95), some (.int (nI i))] [] (mk vi vl) post := by
  have v1 : vp_in (nI i + 1) X.1 := scr_in (k := 1) hb hX (by decide)
  have v2 : vp_in (nI i + 2) X.1 := scr_in (k := 2) hb hX (by decide)
  have v3 : vp_in (nI i + 3) X.1 := scr_in (k := 3) hb hX (by decide)
  have v4 : vp_in (nI i + 4) X.1 := scr_in (k := 4) hb hX (by decide)
  have v5 : vp_in (nI i + 5) X.1 := scr_in (k := 5) hb hX (by decide)
  refine b_L_law_344 (by first | assumption | decide | (refine vp_in_nI ?_ ?_ <;> omega) | omega | simp_all) (by first | assumption | decide | (refine vp_in_nI ?_ ?_ <;> omega) | omega | simp_all) (by first | assumption | decide | (refine vp_in_nI ?_ ?_ <;> omega) | omega | simp_all) (by first | assumption | decide | (refine vp_in_nI ?_ ?_ <;> omega) | omega | simp_all) (by first | assumption | decide | (refine vp_in_nI ?_ ?_ <;> omega) | omega | simp_all) ?_
  refine s_copy hW hC (fun w wl hC2 hs => ?_)
  refine b_L_law_373 (by first | assumption | decide | (refine vp_in_nI ?_ ?_ <;> omega) | omega | simp_all) (by first | assumption | decide | (refine vp_in_nI ?_ ?_ <;> omega) | omega | simp_all) (by first | assumption | decide | (refine vp_in_nI ?_ ?_ <;> omega) | omega | simp_all) (by first | assumption | decide | (refine vp_in_nI ?_ ?_ <;> omega) | omega | simp_all) (by first | assumption | decide | (refine vp_in_nI ?_ ?_ <;> omega) | omega | simp_all) ?_
  refine m_copy hW (AbM_s hM hs) (fun w2 wl2 hM2 hs2 => ?_)
  have gne : ∀ z : Int32, ¬ ¬ z = z := fun z q => q rfl
  refine b_L_law_402 (fun h402 => ?_) (fun h402 => absurd h402 (by first | decide | assumption | omega | simp_all))
  exact kk _ _ _ (oCopy_W hW) (AbC_s (oCopy_W hW) hC2 hs2) hM2
theorem law_5 (hW : wfA A) (hC : AbC A vi vl) (hM : AbM A vi vl) (hb : i + 6 ≤ X.1) (hX : X.1 ≤ 384) (kk : Nxt X d i post) : wp X (d + 14) k_L_law 0 0 407 [some (.ref 1000000), some (.ref 0), some (.ref 95), some (.int (nI i))] [] (mk vi vl) post := by
  have v1 : vp_in (nI i + 1) X.1 := scr_in (k := 1) hb hX (by decide)
  refine b_L_law_407 (by first | assumption | decide | (refine vp_in_nI ?_ ?_ <;> omega) | omega | simp_all) ?_
  refine s_mean hW hC (fun w wl hC2 hs => ?_)
  refine b_L_law_416 (by first | assumption | decide | (refine vp_in_nI ?_ ?_ <;> omega) | omega | simp_all) ?_
  refine m_mean hW (AbM_s hM hs) (fun w2 wl2 hM2 hs2 => ?_)
  have gne : ∀ z : Int32, ¬ ¬ z = z := fun z q => q rfl
  refine b_L_law_425 (fun h425 => ?_) (fun h425 => absurd h425 (by first | decide | assumption | omega | simp_all))
  exact kk _ _ _ (oMean_W hW) (AbC_s (oMean_W hW) hC2 hs2) hM2
theorem law_6 (hW : wfA A) (hC : AbC A vi vl) (hM : AbM A vi vl) (hb : i + 6 ≤ X.1) (hX : X.1 ≤ 384) (kk : Nxt X d i post) : wp X (d + 14) k_L_law 0 0 430 [some (.ref 1000000), some (.ref 0), some (.ref 95), some (.int (nI i))] [] (mk vi vl) post := by
  have v1 : vp_in (nI i + 1) X.1 := scr_in (k := 1) hb hX (by decide)
  have v2 : vp_in (nI i + 2) X.1 := scr_in (k := 2) hb hX (by decide)
  refine b_L_law_430 (by first | assumption | decide | (refine vp_in_nI ?_ ?_ <;> omega) | omega | simp_all) (by first | assumption | decide | (refine vp_in_nI ?_ ?_ <;> omega) | omega | simp_all) ?_
  refine s_text hW hC (fun w wl hC2 hs => ?_)
  refine b_L_law_444 (by first | assumption | decide | (refine vp_in_nI ?_ ?_ <;> omega) | omega | simp_all) (by first | assumption | decide | (refine vp_in_nI ?_ ?_ <;> omega) | omega | simp_all) ?_
  refine m_text hW (AbM_s hM hs) (fun w2 wl2 hM2 hs2 => ?_)
  have gne : ∀ z : Int32, ¬ ¬ z = z := fun z q => q rfl
  refine b_L_law_458 (fun h458 => ?_) (fun h458 => absurd h458 (by first | decide | assumption | omega | simp_all))
  exact kk _ _ _ (oText_W hW) (AbC_s (oText_W hW) hC2 hs2) hM2
theorem law_7 (hW : wfA A) (hC : AbC A vi vl) (hM : AbM A vi vl) (hb : i + 6 ≤ X.1) (hX : X.1 ≤ 384) (kk : Nxt X d i post) : wp X (d + 14) k_L_law 0 0 463 [some (.ref 1000000), some (.ref 0), some (.ref 95), some (.int (nI i))] [] (mk vi vl) post := by
  have v1 : vp_in (nI i + 1) X.1 := scr_in (k := 1) hb hX (by decide)
  have v2 : vp_in (nI i + 2) X.1 := scr_in (k := 2) hb hX (by decide)
  have v3 : vp_in (nI i + 3) X.1 := scr_in (k := 3) hb hX (by decide)
  refine b_L_law_463 (by first | assumption | decide | (refine vp_in_nI ?_ ?_ <;> omega) | omega | simp_all) (by first | assumption | decide | (refine vp_in_nI ?_ ?_ <;> omega) | omega | simp_all) (by first | assumption | decide | (refine vp_in_nI ?_ ?_ <;> omega) | omega | simp_all) ?_
  refine s_put hW hC (fun w wl hC2 hs => ?_)
  refine b_L_law_482 (by first | assumption | decide | (refine vp_in_nI ?_ ?_ <;> omega) | omega | simp_all) (by first | assumption | decide | (refine vp_in_nI ?_ ?_ <;> omega) | omega | simp_all) (by first | assumption | decide | (refine vp_in_nI ?_ ?_ <;> omega) | omega | simp_all) ?_
  refine m_put hW (AbM_s hM hs) (fun w2 wl2 hM2 hs2 => ?_)
  have gne : ∀ z : Int32, ¬ ¬ z = z := fun z q => q rfl
  refine b_L_law_501 (fun h501 => ?_) (fun h501 => absurd h501 (by first | decide | assumption | omega | simp_all))
  exact kk _ _ _ (oPut_W hW) (AbC_s (oPut_W hW) hC2 hs2) hM2
theorem law_8 (hW : wfA A) (hC : AbC A vi vl) (hM : AbM A vi vl) (hb : i + 6 ≤ X.1) (hX : X.1 ≤ 384) (kk : Nxt X d i post) : wp X (d + 14) k_L_law 0 0 506 [some (.ref 1000000), some (.ref 0), some (.ref 95), some (.int (nI i))] [] (mk vi vl) post := by
  have v1 : vp_in (nI i + 1) X.1 := scr_in (k := 1) hb hX (by decide)
  refine b_L_law_506 (by first | assumption | decide | (refine vp_in_nI ?_ ?_ <;> omega) | omega | simp_all) ?_
  refine s_fault hW hC (fun w wl hC2 hs => ?_)
  refine b_L_law_515 (by first | assumption | decide | (refine vp_in_nI ?_ ?_ <;> omega) | omega | simp_all) ?_
  refine m_fault hW (AbM_s hM hs) (fun w2 wl2 hM2 hs2 => ?_)
  have gne : ∀ z : Int32, ¬ ¬ z = z := fun z q => q rfl
  refine b_L_law_524 (fun h524 => ?_) (fun h524 => absurd h524 (by first | decide | assumption | omega | simp_all))
  exact kk _ _ _ (oFault_W hW) (AbC_s (oFault_W hW) hC2 hs2) hM2
theorem law_9 (hW : wfA A) (hC : AbC A vi vl) (hM : AbM A vi vl) (hb : i + 6 ≤ X.1) (hX : X.1 ≤ 384) (kk : Nxt X d i post) : wp X (d + 14) k_L_law 0 0 529 [some (.ref 1000000), some (.ref 0), some (.ref 95), some (.int (nI i))] [] (mk vi vl) post := by
  have v1 : vp_in (nI i + 1) X.1 := scr_in (k := 1) hb hX (by decide)
  refine b_L_law_529 (by first | assumption | decide | (refine vp_in_nI ?_ ?_ <;> omega) | omega | simp_all) ?_
  refine s_cloth hW hC (fun w wl hC2 hs => ?_)
  refine b_L_law_538 (by first | assumption | decide | (refine vp_in_nI ?_ ?_ <;> omega) | omega | simp_all) ?_
  refine m_cloth hW (AbM_s hM hs) (fun w2 wl2 hM2 hs2 => ?_)
  have gne : ∀ z : Int32, ¬ ¬ z = z := fun z q => q rfl
  refine b_L_law_547 (fun h547 => ?_) (fun h547 => absurd h547 (by first | decide | assumption | omega | simp_all))
  exact kk _ _ _ (oCloth_W hW) (AbC_s (oCloth_W hW) hC2 hs2) hM2
theorem law_10 (hW : wfA A) (hC : AbC A vi vl) (hM : AbM A vi vl) (hb : i + 6 ≤ X.1) (hX : X.1 ≤ 384) (kk : Nxt X d i post) : wp X (d + 14) k_L_law 0 0 552 [some (.ref 1000000), some (.ref 0), some (.ref 95), some (.int (nI i))] [] (mk vi vl) post := by
  have v1 : vp_in (nI i + 1) X.1 := scr_in (k := 1) hb hX (by decide)
  have v2 : vp_in (nI i + 2) X.1 := scr_in (k := 2) hb hX (by decide)
  refine b_L_law_552 (by first | assumption | decide | (refine vp_in_nI ?_ ?_ <;> omega) | omega | simp_all) (by first | assumption | decide | (refine vp_in_nI ?_ ?_ <;> omega) | omega | simp_all) ?_
  refine s_year hW hC (fun w wl hC2 hs => ?_)
  refine b_L_law_566 (by first | assumption | decide | (refine vp_in_nI ?_ ?_ <;> omega) | omega | simp_all) (by first | assumption | decide | (refine vp_in_nI ?_ ?_ <;> omega) | omega | simp_all) ?_
  refine m_year hW (AbM_s hM hs) (fun w2 wl2 hM2 hs2 => ?_)
  have gne : ∀ z : Int32, ¬ ¬ z = z := fun z q => q rfl
  refine b_L_law_580 (fun h580 => ?_) (fun h580 => absurd h580 (by first | decide | assumption | omega | simp_all))
  exact kk _ _ _ (oYear_W hW) (AbC_s (oYear_W hW) hC2 hs2) hM2
theorem law_11 (hW : wfA A) (hC : AbC A vi vl) (hM : AbM A vi vl) (hb : i + 6 ≤ X.1) (hX : X.1 ≤ 384) (kk : Nxt X d i post) : wp X (d + 14) k_L_law 0 0 585 [some (.ref 1000000), some (.ref 0), some (.ref 95), some (.int (nI i))] [] (mk vi vl) post := by
  have v1 : vp_in (nI i + 1) X.1 := scr_in (k := 1) hb hX (by decide)
  have v2 : vp_in (nI i + 2) X.1 := scr_in (k := 2) hb hX (by decide)
  refine b_L_law_585 (by first | assumption | decide | (refine vp_in_nI ?_ ?_ <;> omega) | omega | simp_all) (by first | assumption | decide | (refine vp_in_nI ?_ ?_ <;> omega) | omega | simp_all) ?_
  refine s_law hW hC (fun w wl hC2 hs => ?_)
  refine b_L_law_599 (by first | assumption | decide | (refine vp_in_nI ?_ ?_ <;> omega) | omega | simp_all) (by first | assumption | decide | (refine vp_in_nI ?_ ?_ <;> omega) | omega | simp_all) ?_
  refine m_law hW (AbM_s hM hs) (fun w2 wl2 hM2 hs2 => ?_)
  have gne : ∀ z : Int32, ¬ ¬ z = z := fun z q => q rfl
  refine b_L_law_613 (fun h613 => ?_) (fun h613 => absurd h613 (by first | decide | assumption | omega | simp_all))
  exact kk _ _ _ (oLaw_W hW) (AbC_s (oLaw_W hW) hC2 hs2) hM2
theorem law_12 (hW : wfA A) (hC : AbC A vi vl) (hM : AbM A vi vl) (hb : i + 6 ≤ X.1) (hX : X.1 ≤ 384) (kk : Nxt X d i post) : wp X (d + 14) k_L_law 0 0 618 [some (.ref 1000000), some (.ref 0), some (.ref 95), some (.int (nI i))] [] (mk vi vl) post := by
  have v1 : vp_in (nI i + 1) X.1 := scr_in (k := 1) hb hX (by decide)
  have v2 : vp_in (nI i + 2) X.1 := scr_in (k := 2) hb hX (by decide)
  refine b_L_law_618 (by first | assumption | decide | (refine vp_in_nI ?_ ?_ <;> omega) | omega | simp_all) (by first | assumption | decide | (refine vp_in_nI ?_ ?_ <;> omega) | omega | simp_all) ?_
  refine s_mark hW hC (fun w wl hC2 hs => ?_)
  refine b_L_law_632 (by first | assumption | decide | (refine vp_in_nI ?_ ?_ <;> omega) | omega | simp_all) (by first | assumption | decide | (refine vp_in_nI ?_ ?_ <;> omega) | omega | simp_all) ?_
  refine m_mark hW (AbM_s hM hs) (fun w2 wl2 hM2 hs2 => ?_)
  have gne : ∀ z : Int32, ¬ ¬ z = z := fun z q => q rfl
  refine b_L_law_646 (fun h646 => ?_) (fun h646 => absurd h646 (by first | decide | assumption | omega | simp_all))
  exact kk _ _ _ (oMark_W hW) (AbC_s (oMark_W hW) hC2 hs2) hM2
theorem law_13 (hW : wfA A) (hC : AbC A vi vl) (hM : AbM A vi vl) (hb : i + 6 ≤ X.1) (hX : X.1 ≤ 384) (kk : Nxt X d i post) : wp X (d + 14) k_L_law 0 0 651 [some (.ref 1000000), some (.ref 0), some (.ref 95), some (.int (nI i))] [] (mk vi vl) post := by
  have v1 : vp_in (nI i + 1) X.1 := scr_in (k := 1) hb hX (by decide)
  have v2 : vp_in (nI i + 2) X.1 := scr_in (k := 2) hb hX (by decide)
  refine b_L_law_651 (by first | assumption | decide | (refine vp_in_nI ?_ ?_ <;> omega) | omega | simp_all) (by first | assumption | decide | (refine vp_in_nI ?_ ?_ <;> omega) | omega | simp_all) ?_
  refine s_end hW hC (fun w wl hC2 hs => ?_)
  refine b_L_law_665 (by first | assumption | decide | (refine vp_in_nI ?_ ?_ <;> omega) | omega | simp_all) (by first | assumption | decide | (refine vp_in_nI ?_ ?_ <;> omega) | omega | simp_all) ?_
  refine m_end hW (AbM_s hM hs) (fun w2 wl2 hM2 hs2 => ?_)
  have gne : ∀ z : Int32, ¬ ¬ z = z := fun z q => q rfl
  refine b_L_law_679 (fun h679 => ?_) (fun h679 => absurd h679 (by first | decide | assumption | omega | simp_all))
  exact kk _ _ _ (oEnd_W hW) (AbC_s (oEnd_W hW) hC2 hs2) hM2
theorem law_14 (hW : wfA A) (hC : AbC A vi vl) (hM : AbM A vi vl) (hb : i + 6 ≤ X.1) (hX : X.1 ≤ 384) (kk : Nxt X d i post) : wp X (d + 14) k_L_law 0 0 684 [some (.ref 1000000), some (.ref 0), some (.ref 95), some (.int (nI i))] [] (mk vi vl) post := by
  have v1 : vp_in (nI i + 1) X.1 := scr_in (k := 1) hb hX (by decide)
  have v2 : vp_in (nI i + 2) X.1 := scr_in (k := 2) hb hX (by decide)
  refine b_L_law_684 (by first | assumption | decide | (refine vp_in_nI ?_ ?_ <;> omega) | omega | simp_all) (by first | assumption | decide | (refine vp_in_nI ?_ ?_ <;> omega) | omega | simp_all) ?_
  refine s_sew hW hC (fun w wl hC2 hs => ?_)
  refine b_L_law_698 (by first | assumption | decide | (refine vp_in_nI ?_ ?_ <;> omega) | omega | simp_all) (by first | assumption | decide | (refine vp_in_nI ?_ ?_ <;> omega) | omega | simp_all) ?_
  refine m_sew hW (AbM_s hM hs) (fun w2 wl2 hM2 hs2 => ?_)
  have gne : ∀ z : Int32, ¬ ¬ z = z := fun z q => q rfl
  refine b_L_law_712 (fun h712 => ?_) (fun h712 => absurd h712 (by first | decide | assumption | omega | simp_all))
  exact kk _ _ _ (oSew_W hW) (AbC_s (oSew_W hW) hC2 hs2) hM2
theorem law_15 (hW : wfA A) (hC : AbC A vi vl) (hM : AbM A vi vl) (hb : i + 6 ≤ X.1) (hX : X.1 ≤ 384) (kk : Nxt X d i post) : wp X (d + 14) k_L_law 0 0 717 [some (.ref 1000000), some (.ref 0), some (.ref 95), some (.int (nI i))] [] (mk vi vl) post := by
  have v1 : vp_in (nI i + 1) X.1 := scr_in (k := 1) hb hX (by decide)
  refine b_L_law_717 (by first | assumption | decide | (refine vp_in_nI ?_ ?_ <;> omega) | omega | simp_all) ?_
  refine s_unpick hW hC (fun w wl hC2 hs => ?_)
  refine b_L_law_726 (by first | assumption | decide | (refine vp_in_nI ?_ ?_ <;> omega) | omega | simp_all) ?_
  refine m_unpick hW (AbM_s hM hs) (fun w2 wl2 hM2 hs2 => ?_)
  have gne : ∀ z : Int32, ¬ ¬ z = z := fun z q => q rfl
  refine b_L_law_735 (fun h735 => ?_) (fun h735 => absurd h735 (by first | decide | assumption | omega | simp_all))
  exact kk _ _ _ (oUnpick_W hW) (AbC_s (oUnpick_W hW) hC2 hs2) hM2
theorem law_16 (hW : wfA A) (hC : AbC A vi vl) (hM : AbM A vi vl) (hb : i + 6 ≤ X.1) (hX : X.1 ≤ 384) (kk : Nxt X d i post) : wp X (d + 14) k_L_law 0 0 740 [some (.ref 1000000), some (.ref 0), some (.ref 95), some (.int (nI i))] [] (mk vi vl) post := by
  have v1 : vp_in (nI i + 1) X.1 := scr_in (k := 1) hb hX (by decide)
  refine b_L_law_740 (by first | assumption | decide | (refine vp_in_nI ?_ ?_ <;> omega) | omega | simp_all) ?_
  refine s_undo hW hC (fun w wl hC2 hs => ?_)
  refine b_L_law_749 (by first | assumption | decide | (refine vp_in_nI ?_ ?_ <;> omega) | omega | simp_all) ?_
  refine m_undo hW (AbM_s hM hs) (fun w2 wl2 hM2 hs2 => ?_)
  have gne : ∀ z : Int32, ¬ ¬ z = z := fun z q => q rfl
  refine b_L_law_758 (fun h758 => ?_) (fun h758 => absurd h758 (by first | decide | assumption | omega | simp_all))
  exact kk _ _ _ (oUndo_W hW) (AbC_s (oUndo_W hW) hC2 hs2) hM2
theorem law_17 (hW : wfA A) (hC : AbC A vi vl) (hM : AbM A vi vl) (hb : i + 6 ≤ X.1) (hX : X.1 ≤ 384) (kk : Nxt X d i post) : wp X (d + 14) k_L_law 0 0 763 [some (.ref 1000000), some (.ref 0), some (.ref 95), some (.int (nI i))] [] (mk vi vl) post := by
  have v1 : vp_in (nI i + 1) X.1 := scr_in (k := 1) hb hX (by decide)
  refine b_L_law_763 (by first | assumption | decide | (refine vp_in_nI ?_ ?_ <;> omega) | omega | simp_all) ?_
  refine s_keep hW hC (fun w wl hC2 hs => ?_)
  refine b_L_law_772 (by first | assumption | decide | (refine vp_in_nI ?_ ?_ <;> omega) | omega | simp_all) ?_
  refine m_keep hW (AbM_s hM hs) (fun w2 wl2 hM2 hs2 => ?_)
  have gne : ∀ z : Int32, ¬ ¬ z = z := fun z q => q rfl
  refine b_L_law_781 (fun h781 => ?_) (fun h781 => absurd h781 (by first | decide | assumption | omega | simp_all))
  exact kk _ _ _ (oKeep_W hW) (AbC_s (oKeep_W hW) hC2 hs2) hM2
theorem law_18 (hW : wfA A) (hC : AbC A vi vl) (hM : AbM A vi vl) (hb : i + 6 ≤ X.1) (hX : X.1 ≤ 384) (kk : Nxt X d i post) : wp X (d + 14) k_L_law 0 0 786 [some (.ref 1000000), some (.ref 0), some (.ref 95), some (.int (nI i))] [] (mk vi vl) post := by
  have v1 : vp_in (nI i + 1) X.1 := scr_in (k := 1) hb hX (by decide)
  refine b_L_law_786 (by first | assumption | decide | (refine vp_in_nI ?_ ?_ <;> omega) | omega | simp_all) ?_
  refine s_on hW hC (fun w wl hC2 hs => ?_)
  refine b_L_law_795 (by first | assumption | decide | (refine vp_in_nI ?_ ?_ <;> omega) | omega | simp_all) ?_
  refine m_on hW (AbM_s hM hs) (fun w2 wl2 hM2 hs2 => ?_)
  have gne : ∀ z : Int32, ¬ ¬ z = z := fun z q => q rfl
  refine b_L_law_804 (fun h804 => ?_) (fun h804 => absurd h804 (by first | decide | assumption | omega | simp_all))
  exact kk _ _ _ (oOn_W hW) (AbC_s (oOn_W hW) hC2 hs2) hM2
theorem law_19 (hW : wfA A) (hC : AbC A vi vl) (hM : AbM A vi vl) (hb : i + 6 ≤ X.1) (hX : X.1 ≤ 384) (kk : Nxt X d i post) : wp X (d + 14) k_L_law 0 0 809 [some (.ref 1000000), some (.ref 0), some (.ref 95), some (.int (nI i))] [] (mk vi vl) post := by
  have v1 : vp_in (nI i + 1) X.1 := scr_in (k := 1) hb hX (by decide)
  refine b_L_law_809 (by first | assumption | decide | (refine vp_in_nI ?_ ?_ <;> omega) | omega | simp_all) ?_
  refine s_happens hW hC (fun w wl hC2 hs => ?_)
  refine b_L_law_818 (by first | assumption | decide | (refine vp_in_nI ?_ ?_ <;> omega) | omega | simp_all) ?_
  refine m_happens hW (AbM_s hM hs) (fun w2 wl2 hM2 hs2 => ?_)
  have gne : ∀ z : Int32, ¬ ¬ z = z := fun z q => q rfl
  refine b_L_law_827 (fun h827 => ?_) (fun h827 => absurd h827 (by first | decide | assumption | omega | simp_all))
  exact kk _ _ _ (oHappens_W hW) (AbC_s (oHappens_W hW) hC2 hs2) hM2
theorem law_20 (hW : wfA A) (hC : AbC A vi vl) (hM : AbM A vi vl) (hb : i + 6 ≤ X.1) (hX : X.1 ≤ 384) (kk : Nxt X d i post) : wp X (d + 14) k_L_law 0 0 832 [some (.ref 1000000), some (.ref 0), some (.ref 95), some (.int (nI i))] [] (mk vi vl) post := by
  have v1 : vp_in (nI i + 1) X.1 := scr_in (k := 1) hb hX (by decide)
  refine b_L_law_832 (by first | assumption | decide | (refine vp_in_nI ?_ ?_ <;> omega) | omega | simp_all) ?_
  refine s_by hW hC (fun w wl hC2 hs => ?_)
  refine b_L_law_841 (by first | assumption | decide | (refine vp_in_nI ?_ ?_ <;> omega) | omega | simp_all) ?_
  refine m_by hW (AbM_s hM hs) (fun w2 wl2 hM2 hs2 => ?_)
  have gne : ∀ z : Int32, ¬ ¬ z = z := fun z q => q rfl
  refine b_L_law_850 (fun h850 => ?_) (fun h850 => absurd h850 (by first | decide | assumption | omega | simp_all))
  exact kk _ _ _ (oBy_W hW) (AbC_s (oBy_W hW) hC2 hs2) hM2
theorem law_21 (hW : wfA A) (hC : AbC A vi vl) (hM : AbM A vi vl) (hb : i + 6 ≤ X.1) (hX : X.1 ≤ 384) (kk : Nxt X d i post) : wp X (d + 14) k_L_law 0 0 855 [some (.ref 1000000), some (.ref 0), some (.ref 95), some (.int (nI i))] [] (mk vi vl) post := by
  refine b_L_law_855 ?_
  refine s_broken hW hC (fun w wl hC2 hs => ?_)
  refine b_L_law_859 ?_
  refine m_broken hW (AbM_s hM hs) (fun w2 wl2 hM2 hs2 => ?_)
  have gne : ∀ z : Int32, ¬ ¬ z = z := fun z q => q rfl
  refine b_L_law_863 (fun h863 => ?_) (fun h863 => absurd h863 (by first | decide | assumption | omega | simp_all))
  exact kk _ _ _ (oBroken_W hW) (AbC_s (oBroken_W hW) hC2 hs2) hM2
theorem law_22 (hW : wfA A) (hC : AbC A vi vl) (hM : AbM A vi vl) (hb : i + 6 ≤ X.1) (hX : X.1 ≤ 384) (kk : Nxt X d i post) : wp X (d + 14) k_L_law 0 0 868 [some (.ref 1000000), some (.ref 0), some (.ref 95), some (.int (nI i))] [] (mk vi vl) post := by
  have v1 : vp_in (nI i + 1) X.1 := scr_in (k := 1) hb hX (by decide)
  refine b_L_law_868 (by first | assumption | decide | (refine vp_in_nI ?_ ?_ <;> omega) | omega | simp_all) ?_
  refine s_can hW hC (fun w wl hC2 hs => ?_)
  refine b_L_law_877 (by first | assumption | decide | (refine vp_in_nI ?_ ?_ <;> omega) | omega | simp_all) ?_
  refine m_can hW (AbM_s hM hs) (fun w2 wl2 hM2 hs2 => ?_)
  have gne : ∀ z : Int32, ¬ ¬ z = z := fun z q => q rfl
  refine b_L_law_886 (fun h886 => ?_) (fun h886 => absurd h886 (by first | decide | assumption | omega | simp_all))
  exact kk _ _ _ (oCan_W hW) (AbC_s (oCan_W hW) hC2 hs2) hM2
theorem law_23 (hW : wfA A) (hC : AbC A vi vl) (hM : AbM A vi vl) (hb : i + 6 ≤ X.1) (hX : X.1 ≤ 384) (kk : Nxt X d i post) : wp X (d + 14) k_L_law 0 0 891 [some (.ref 1000000), some (.ref 0), some (.ref 95), some (.int (nI i))] [] (mk vi vl) post := by
  have v1 : vp_in (nI i + 1) X.1 := scr_in (k := 1) hb hX (by decide)
  refine b_L_law_891 (by first | assumption | decide | (refine vp_in_nI ?_ ?_ <;> omega) | omega | simp_all) ?_
  refine s_safe hW hC (fun w wl hC2 hs => ?_)
  refine b_L_law_900 (by first | assumption | decide | (refine vp_in_nI ?_ ?_ <;> omega) | omega | simp_all) ?_
  refine m_safe hW (AbM_s hM hs) (fun w2 wl2 hM2 hs2 => ?_)
  have gne : ∀ z : Int32, ¬ ¬ z = z := fun z q => q rfl
  refine b_L_law_909 (fun h909 => ?_) (fun h909 => absurd h909 (by first | decide | assumption | omega | simp_all))
  exact kk _ _ _ (oSafe_W hW) (AbC_s (oSafe_W hW) hC2 hs2) hM2
theorem law_24 (hW : wfA A) (hC : AbC A vi vl) (hM : AbM A vi vl) (hb : i + 6 ≤ X.1) (hX : X.1 ≤ 384) (kk : Nxt X d i post) : wp X (d + 14) k_L_law 0 0 914 [some (.ref 1000000), some (.ref 0), some (.ref 95), some (.int (nI i))] [] (mk vi vl) post := by
  have v1 : vp_in (nI i + 1) X.1 := scr_in (k := 1) hb hX (by decide)
  have v2 : vp_in (nI i + 2) X.1 := scr_in (k := 2) hb hX (by decide)
  have v3 : vp_in (nI i + 3) X.1 := scr_in (k := 3) hb hX (by decide)
  refine b_L_law_914 (by first | assumption | decide | (refine vp_in_nI ?_ ?_ <;> omega) | omega | simp_all) (by first | assumption | decide | (refine vp_in_nI ?_ ?_ <;> omega) | omega | simp_all) (by first | assumption | decide | (refine vp_in_nI ?_ ?_ <;> omega) | omega | simp_all) ?_
  refine s_least hW hC (fun w wl hC2 hs => ?_)
  refine b_L_law_933 (by first | assumption | decide | (refine vp_in_nI ?_ ?_ <;> omega) | omega | simp_all) (by first | assumption | decide | (refine vp_in_nI ?_ ?_ <;> omega) | omega | simp_all) (by first | assumption | decide | (refine vp_in_nI ?_ ?_ <;> omega) | omega | simp_all) ?_
  refine m_least hW (AbM_s hM hs) (fun w2 wl2 hM2 hs2 => ?_)
  have gne : ∀ z : Int32, ¬ ¬ z = z := fun z q => q rfl
  refine b_L_law_952 (fun h952 => ?_) (fun h952 => absurd h952 (by first | decide | assumption | omega | simp_all))
  exact kk _ _ _ (oLeast_W hW) (AbC_s (oLeast_W hW) hC2 hs2) hM2
theorem law_25 (hW : wfA A) (hC : AbC A vi vl) (hM : AbM A vi vl) (hb : i + 6 ≤ X.1) (hX : X.1 ≤ 384) (kk : Nxt X d i post) : wp X (d + 14) k_L_law 0 0 957 [some (.ref 1000000), some (.ref 0), some (.ref 95), some (.int (nI i))] [] (mk vi vl) post := by
  have v1 : vp_in (nI i + 1) X.1 := scr_in (k := 1) hb hX (by decide)
  have v2 : vp_in (nI i + 2) X.1 := scr_in (k := 2) hb hX (by decide)
  have v3 : vp_in (nI i + 3) X.1 := scr_in (k := 3) hb hX (by decide)
  refine b_L_law_957 (by first | assumption | decide | (refine vp_in_nI ?_ ?_ <;> omega) | omega | simp_all) (by first | assumption | decide | (refine vp_in_nI ?_ ?_ <;> omega) | omega | simp_all) (by first | assumption | decide | (refine vp_in_nI ?_ ?_ <;> omega) | omega | simp_all) ?_
  refine s_ways hW hC (fun w wl hC2 hs => ?_)
  refine b_L_law_976 (by first | assumption | decide | (refine vp_in_nI ?_ ?_ <;> omega) | omega | simp_all) (by first | assumption | decide | (refine vp_in_nI ?_ ?_ <;> omega) | omega | simp_all) (by first | assumption | decide | (refine vp_in_nI ?_ ?_ <;> omega) | omega | simp_all) ?_
  refine m_ways hW (AbM_s hM hs) (fun w2 wl2 hM2 hs2 => ?_)
  have gne : ∀ z : Int32, ¬ ¬ z = z := fun z q => q rfl
  refine b_L_law_995 (fun h995 => ?_) (fun h995 => absurd h995 (by first | decide | assumption | omega | simp_all))
  exact kk _ _ _ (oWays_W hW) (AbC_s (oWays_W hW) hC2 hs2) hM2
theorem law_26 (hW : wfA A) (hC : AbC A vi vl) (hM : AbM A vi vl) (hb : i + 6 ≤ X.1) (hX : X.1 ≤ 384) (kk : Nxt X d i post) : wp X (d + 14) k_L_law 0 0 1000 [some (.ref 1000000), some (.ref 0), some (.ref 95), some (.int (nI i))] [] (mk vi vl) post := by
  have v1 : vp_in (nI i + 1) X.1 := scr_in (k := 1) hb hX (by decide)
  have v2 : vp_in (nI i + 2) X.1 := scr_in (k := 2) hb hX (by decide)
  refine b_L_law_1000 (by first | assumption | decide | (refine vp_in_nI ?_ ?_ <;> omega) | omega | simp_all) (by first | assumption | decide | (refine vp_in_nI ?_ ?_ <;> omega) | omega | simp_all) ?_
  refine s_avert hW hC (fun w wl hC2 hs => ?_)
  refine b_L_law_1014 (by first | assumption | decide | (refine vp_in_nI ?_ ?_ <;> omega) | omega | simp_all) (by first | assumption | decide | (refine vp_in_nI ?_ ?_ <;> omega) | omega | simp_all) ?_
  refine m_avert hW (AbM_s hM hs) (fun w2 wl2 hM2 hs2 => ?_)
  have gne : ∀ z : Int32, ¬ ¬ z = z := fun z q => q rfl
  refine b_L_law_1028 (fun h1028 => ?_) (fun h1028 => absurd h1028 (by first | decide | assumption | omega | simp_all))
  exact kk _ _ _ (oAvert_W hW) (AbC_s (oAvert_W hW) hC2 hs2) hM2
theorem law_27 (hW : wfA A) (hC : AbC A vi vl) (hM : AbM A vi vl) (hb : i + 6 ≤ X.1) (hX : X.1 ≤ 384) (kk : Nxt X d i post) : wp X (d + 14) k_L_law 0 0 1033 [some (.ref 1000000), some (.ref 0), some (.ref 95), some (.int (nI i))] [] (mk vi vl) post := by
  have v1 : vp_in (nI i + 1) X.1 := scr_in (k := 1) hb hX (by decide)
  refine b_L_law_1033 (by first | assumption | decide | (refine vp_in_nI ?_ ?_ <;> omega) | omega | simp_all) ?_
  refine s_judge hW hC (fun w wl hC2 hs => ?_)
  refine b_L_law_1042 (by first | assumption | decide | (refine vp_in_nI ?_ ?_ <;> omega) | omega | simp_all) ?_
  refine m_judge hW (AbM_s hM hs) (fun w2 wl2 hM2 hs2 => ?_)
  have gne : ∀ z : Int32, ¬ ¬ z = z := fun z q => q rfl
  refine b_L_law_1051 (fun h1051 => ?_) (fun h1051 => absurd h1051 (by first | decide | assumption | omega | simp_all))
  exact kk _ _ _ (oJudge_W hW) (AbC_s (oJudge_W hW) hC2 hs2) hM2
theorem law_28 (hW : wfA A) (hC : AbC A vi vl) (hM : AbM A vi vl) (hb : i + 6 ≤ X.1) (hX : X.1 ≤ 384) (kk : Nxt X d i post) : wp X (d + 14) k_L_law 0 0 1056 [some (.ref 1000000), some (.ref 0), some (.ref 95), some (.int (nI i))] [] (mk vi vl) post := by
  have v1 : vp_in (nI i + 1) X.1 := scr_in (k := 1) hb hX (by decide)
  have v2 : vp_in (nI i + 2) X.1 := scr_in (k := 2) hb hX (by decide)
  refine b_L_law_1056 (by first | assumption | decide | (refine vp_in_nI ?_ ?_ <;> omega) | omega | simp_all) (by first | assumption | decide | (refine vp_in_nI ?_ ?_ <;> omega) | omega | simp_all) ?_
  refine s_was hW hC (fun w wl hC2 hs => ?_)
  refine b_L_law_1070 (by first | assumption | decide | (refine vp_in_nI ?_ ?_ <;> omega) | omega | simp_all) (by first | assumption | decide | (refine vp_in_nI ?_ ?_ <;> omega) | omega | simp_all) ?_
  refine m_was hW (AbM_s hM hs) (fun w2 wl2 hM2 hs2 => ?_)
  have gne : ∀ z : Int32, ¬ ¬ z = z := fun z q => q rfl
  refine b_L_law_1084 (fun h1084 => ?_) (fun h1084 => absurd h1084 (by first | decide | assumption | omega | simp_all))
  exact kk _ _ _ (oWas_W hW) (AbC_s (oWas_W hW) hC2 hs2) hM2
theorem law_29 (hW : wfA A) (hC : AbC A vi vl) (hM : AbM A vi vl) (hb : i + 6 ≤ X.1) (hX : X.1 ≤ 384) (kk : Nxt X d i post) : wp X (d + 14) k_L_law 0 0 1089 [some (.ref 1000000), some (.ref 0), some (.ref 95), some (.int (nI i))] [] (mk vi vl) post := by
  have v1 : vp_in (nI i + 1) X.1 := scr_in (k := 1) hb hX (by decide)
  have v2 : vp_in (nI i + 2) X.1 := scr_in (k := 2) hb hX (by decide)
  refine b_L_law_1089 (by first | assumption | decide | (refine vp_in_nI ?_ ?_ <;> omega) | omega | simp_all) (by first | assumption | decide | (refine vp_in_nI ?_ ?_ <;> omega) | omega | simp_all) ?_
  refine s_kinds hW hC (fun w wl hC2 hs => ?_)
  refine b_L_law_1103 (by first | assumption | decide | (refine vp_in_nI ?_ ?_ <;> omega) | omega | simp_all) (by first | assumption | decide | (refine vp_in_nI ?_ ?_ <;> omega) | omega | simp_all) ?_
  refine m_kinds hW (AbM_s hM hs) (fun w2 wl2 hM2 hs2 => ?_)
  have gne : ∀ z : Int32, ¬ ¬ z = z := fun z q => q rfl
  refine b_L_law_1117 (fun h1117 => ?_) (fun h1117 => absurd h1117 (by first | decide | assumption | omega | simp_all))
  exact kk _ _ _ (oKinds_W hW) (AbC_s (oKinds_W hW) hC2 hs2) hM2
theorem law_30 (hW : wfA A) (hC : AbC A vi vl) (hM : AbM A vi vl) (hb : i + 6 ≤ X.1) (hX : X.1 ≤ 384) (kk : Nxt X d i post) : wp X (d + 14) k_L_law 0 0 1122 [some (.ref 1000000), some (.ref 0), some (.ref 95), some (.int (nI i))] [] (mk vi vl) post := by
  refine b_L_law_1122 ?_
  refine s_needed hW hC (fun w wl hC2 hs => ?_)
  refine b_L_law_1126 ?_
  refine m_needed hW (AbM_s hM hs) (fun w2 wl2 hM2 hs2 => ?_)
  have gne : ∀ z : Int32, ¬ ¬ z = z := fun z q => q rfl
  refine b_L_law_1130 (fun h1130 => ?_) (fun h1130 => absurd h1130 (by first | decide | assumption | omega | simp_all))
  exact kk _ _ _ (oNeeded_W hW) (AbC_s (oNeeded_W hW) hC2 hs2) hM2
theorem law_31 (hW : wfA A) (hC : AbC A vi vl) (hM : AbM A vi vl) (hb : i + 6 ≤ X.1) (hX : X.1 ≤ 384) (kk : Nxt X d i post) : wp X (d + 14) k_L_law 0 0 1135 [some (.ref 1000000), some (.ref 0), some (.ref 95), some (.int (nI i))] [] (mk vi vl) post := by
  have v1 : vp_in (nI i + 1) X.1 := scr_in (k := 1) hb hX (by decide)
  refine b_L_law_1135 (by first | assumption | decide | (refine vp_in_nI ?_ ?_ <;> omega) | omega | simp_all) ?_
  refine s_forged hW hC (fun w wl hC2 hs => ?_)
  refine b_L_law_1144 (by first | assumption | decide | (refine vp_in_nI ?_ ?_ <;> omega) | omega | simp_all) ?_
  refine m_forged hW (AbM_s hM hs) (fun w2 wl2 hM2 hs2 => ?_)
  have gne : ∀ z : Int32, ¬ ¬ z = z := fun z q => q rfl
  refine b_L_law_1153 (fun h1153 => ?_) (fun h1153 => absurd h1153 (by first | decide | assumption | omega | simp_all))
  exact kk _ _ _ (oForged_W hW) (AbC_s (oForged_W hW) hC2 hs2) hM2
theorem law_32 (hW : wfA A) (hC : AbC A vi vl) (hM : AbM A vi vl) (hb : i + 6 ≤ X.1) (hX : X.1 ≤ 384) (kk : Nxt X d i post) : wp X (d + 14) k_L_law 0 0 1158 [some (.ref 1000000), some (.ref 0), some (.ref 95), some (.int (nI i))] [] (mk vi vl) post := by
  have v1 : vp_in (nI i + 1) X.1 := scr_in (k := 1) hb hX (by decide)
  have v2 : vp_in (nI i + 2) X.1 := scr_in (k := 2) hb hX (by decide)
  refine b_L_law_1158 (by first | assumption | decide | (refine vp_in_nI ?_ ?_ <;> omega) | omega | simp_all) (by first | assumption | decide | (refine vp_in_nI ?_ ?_ <;> omega) | omega | simp_all) ?_
  refine s_odds hW hC (fun w wl hC2 hs => ?_)
  refine b_L_law_1172 (by first | assumption | decide | (refine vp_in_nI ?_ ?_ <;> omega) | omega | simp_all) (by first | assumption | decide | (refine vp_in_nI ?_ ?_ <;> omega) | omega | simp_all) ?_
  refine m_odds hW (AbM_s hM hs) (fun w2 wl2 hM2 hs2 => ?_)
  have gne : ∀ z : Int32, ¬ ¬ z = z := fun z q => q rfl
  refine b_L_law_1186 (fun h1186 => ?_) (fun h1186 => absurd h1186 (by first | decide | assumption | omega | simp_all))
  exact kk _ _ _ (oOdds_W hW) (AbC_s (oOdds_W hW) hC2 hs2) hM2
theorem law_33 (hW : wfA A) (hC : AbC A vi vl) (hM : AbM A vi vl) (hb : i + 6 ≤ X.1) (hX : X.1 ≤ 384) (kk : Nxt X d i post) : wp X (d + 14) k_L_law 0 0 1191 [some (.ref 1000000), some (.ref 0), some (.ref 95), some (.int (nI i))] [] (mk vi vl) post := by
  have v1 : vp_in (nI i + 1) X.1 := scr_in (k := 1) hb hX (by decide)
  have v2 : vp_in (nI i + 2) X.1 := scr_in (k := 2) hb hX (by decide)
  refine b_L_law_1191 (by first | assumption | decide | (refine vp_in_nI ?_ ?_ <;> omega) | omega | simp_all) (by first | assumption | decide | (refine vp_in_nI ?_ ?_ <;> omega) | omega | simp_all) ?_
  refine s_lots hW hC (fun w wl hC2 hs => ?_)
  refine b_L_law_1205 (by first | assumption | decide | (refine vp_in_nI ?_ ?_ <;> omega) | omega | simp_all) (by first | assumption | decide | (refine vp_in_nI ?_ ?_ <;> omega) | omega | simp_all) ?_
  refine m_lots hW (AbM_s hM hs) (fun w2 wl2 hM2 hs2 => ?_)
  have gne : ∀ z : Int32, ¬ ¬ z = z := fun z q => q rfl
  refine b_L_law_1219 (fun h1219 => ?_) (fun h1219 => absurd h1219 (by first | decide | assumption | omega | simp_all))
  exact kk _ _ _ (oLots_W hW) (AbC_s (oLots_W hW) hC2 hs2) hM2
theorem law_34 (hW : wfA A) (hC : AbC A vi vl) (hM : AbM A vi vl) (hb : i + 6 ≤ X.1) (hX : X.1 ≤ 384) (kk : Nxt X d i post) : wp X (d + 14) k_L_law 0 0 1224 [some (.ref 1000000), some (.ref 0), some (.ref 95), some (.int (nI i))] [] (mk vi vl) post := by
  refine b_L_law_1224 ?_
  refine s_asked hC (fun w wl hC2 hs => ?_)
  refine b_L_law_1228 ?_
  refine m_asked (AbM_s hM hs) (fun w2 wl2 hM2 hs2 => ?_)
  have gne : ∀ z : Int32, ¬ ¬ z = z := fun z q => q rfl
  refine b_L_law_1232 (fun h1232 => ?_) (fun h1232 => absurd h1232 (by first | decide | assumption | omega | simp_all))
  exact kk _ _ _ hW (AbC_s hW hC2 hs2) hM2
theorem law_35 (hW : wfA A) (hC : AbC A vi vl) (hM : AbM A vi vl) (hb : i + 6 ≤ X.1) (hX : X.1 ≤ 384) (kk : Nxt X d i post) : wp X (d + 14) k_L_law 0 0 1237 [some (.ref 1000000), some (.ref 0), some (.ref 95), some (.int (nI i))] [] (mk vi vl) post := by
  refine b_L_law_1237 ?_
  refine s_upper hC (fun w wl hC2 hs => ?_)
  refine b_L_law_1241 ?_
  refine m_upper (AbM_s hM hs) (fun w2 wl2 hM2 hs2 => ?_)
  have glc : ¬ ¬ lg_cmp (aUp A) (aUp A) = 0 := fun q => q lc_rf
  refine b_L_law_1245 (fun h1245 => ?_) (fun h1245 => absurd h1245 (by first | decide | assumption | omega | simp_all))
  exact kk _ _ _ hW (AbC_s hW hC2 hs2) hM2
theorem law_36 (hW : wfA A) (hC : AbC A vi vl) (hM : AbM A vi vl) (hb : i + 6 ≤ X.1) (hX : X.1 ≤ 384) (kk : Nxt X d i post) : wp X (d + 14) k_L_law 0 0 1251 [some (.ref 1000000), some (.ref 0), some (.ref 95), some (.int (nI i))] [] (mk vi vl) post := by
  refine b_L_law_1251 ?_
  refine s_lower hC (fun w wl hC2 hs => ?_)
  refine b_L_law_1255 ?_
  refine m_lower (AbM_s hM hs) (fun w2 wl2 hM2 hs2 => ?_)
  have glc : ¬ ¬ lg_cmp (aLo A) (aLo A) = 0 := fun q => q lc_rf
  refine b_L_law_1259 (fun h1259 => ?_) (fun h1259 => absurd h1259 (by first | decide | assumption | omega | simp_all))
  exact kk _ _ _ hW (AbC_s hW hC2 hs2) hM2
theorem law_37 (hW : wfA A) (hC : AbC A vi vl) (hM : AbM A vi vl) (hb : i + 6 ≤ X.1) (hX : X.1 ≤ 384) (kk : Nxt X d i post) : wp X (d + 14) k_L_law 0 0 1265 [some (.ref 1000000), some (.ref 0), some (.ref 95), some (.int (nI i))] [] (mk vi vl) post := by
  have v1 : vp_in (nI i + 1) X.1 := scr_in (k := 1) hb hX (by decide)
  refine b_L_law_1265 (by first | assumption | decide | (refine vp_in_nI ?_ ?_ <;> omega) | omega | simp_all) ?_
  refine s_count hW hC (fun w wl hC2 hs => ?_)
  refine b_L_law_1274 (by first | assumption | decide | (refine vp_in_nI ?_ ?_ <;> omega) | omega | simp_all) ?_
  refine m_count hW (AbM_s hM hs) (fun w2 wl2 hM2 hs2 => ?_)
  have gne : ∀ z : Int32, ¬ ¬ z = z := fun z q => q rfl
  refine b_L_law_1283 (fun h1283 => ?_) (fun h1283 => absurd h1283 (by first | decide | assumption | omega | simp_all))
  exact kk _ _ _ hW (AbC_s hW hC2 hs2) hM2
theorem law_38 (hW : wfA A) (hC : AbC A vi vl) (hM : AbM A vi vl) (hb : i + 6 ≤ X.1) (hX : X.1 ≤ 384) (kk : Nxt X d i post) : wp X (d + 14) k_L_law 0 0 1288 [some (.ref 1000000), some (.ref 0), some (.ref 95), some (.int (nI i))] [] (mk vi vl) post := by
  refine b_L_law_1288 ?_
  refine s_finding hC (fun w wl hC2 hs => ?_)
  refine b_L_law_1292 ?_
  refine m_finding (AbM_s hM hs) (fun w2 wl2 hM2 hs2 => ?_)
  have gne : ∀ z : Int32, ¬ ¬ z = z := fun z q => q rfl
  refine b_L_law_1296 (fun h1296 => ?_) (fun h1296 => absurd h1296 (by first | decide | assumption | omega | simp_all))
  exact kk _ _ _ hW (AbC_s hW hC2 hs2) hM2
theorem law_39 (hW : wfA A) (hC : AbC A vi vl) (hM : AbM A vi vl) (hb : i + 6 ≤ X.1) (hX : X.1 ≤ 384) (kk : Nxt X d i post) : wp X (d + 14) k_L_law 0 0 1301 [some (.ref 1000000), some (.ref 0), some (.ref 95), some (.int (nI i))] [] (mk vi vl) post := by
  have v1 : vp_in (nI i + 1) X.1 := scr_in (k := 1) hb hX (by decide)
  refine b_L_law_1301 (by first | assumption | decide | (refine vp_in_nI ?_ ?_ <;> omega) | omega | simp_all) ?_
  refine s_findings hC (fun w wl hC2 hs => ?_)
  refine b_L_law_1310 (by first | assumption | decide | (refine vp_in_nI ?_ ?_ <;> omega) | omega | simp_all) ?_
  refine m_findings (AbM_s hM hs) (fun w2 wl2 hM2 hs2 => ?_)
  have gne : ∀ z : Int32, ¬ ¬ z = z := fun z q => q rfl
  refine b_L_law_1319 (fun h1319 => ?_) (fun h1319 => absurd h1319 (by first | decide | assumption | omega | simp_all))
  exact kk _ _ _ (oFindings_W hW) (AbC_s (oFindings_W hW) hC2 hs2) hM2
theorem law_40 (hW : wfA A) (hC : AbC A vi vl) (hM : AbM A vi vl) (hb : i + 6 ≤ X.1) (hX : X.1 ≤ 384) (kk : Nxt X d i post) : wp X (d + 14) k_L_law 0 0 1324 [some (.ref 1000000), some (.ref 0), some (.ref 95), some (.int (nI i))] [] (mk vi vl) post := by
  refine b_L_law_1324 ?_
  refine s_digest hW hC (fun w wl hC2 hs => ?_)
  refine b_L_law_1328 ?_
  refine m_digest hW (AbM_s hM hs) (fun w2 wl2 hM2 hs2 => ?_)
  have glc : ¬ ¬ lg_cmp (digT A) (digT A) = 0 := fun q => q lc_rf
  refine b_L_law_1332 (fun h1332 => ?_) (fun h1332 => absurd h1332 (by first | decide | assumption | omega | simp_all))
  exact kk _ _ _ hW (AbC_s hW hC2 hs2) hM2
end S91
