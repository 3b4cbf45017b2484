/-! locals: rows -/
theorem las_mem {G : aG} : ∀ (ls : aL) (i i0 : Nat) (v : Value), ls[i]? = some (some v) → (i0 + i, rV G v) ∈ las G i0 ls
  | [], i, i0, v, h => by simp at h
  | x :: t, 0, i0, v, h => by
    rw [List.getElem?_cons_zero] at h
    cases h
    exact List.mem_cons_self
  | none :: t, i + 1, i0, v, h => by
    rw [List.getElem?_cons_succ] at h
    have := las_mem (G := G) t i (i0 + 1) v h
    rw [show i0 + 1 + i = i0 + (i + 1) by omega] at this
    exact this
  | some w :: t, i + 1, i0, v, h => by
    rw [List.getElem?_cons_succ] at h
    have := las_mem (G := G) t i (i0 + 1) v h
    rw [show i0 + 1 + i = i0 + (i + 1) by omega] at this
    exact List.mem_cons_of_mem _ this
theorem las_of {G : aG} : ∀ (ls : aL) (i0 : Nat) (q : Nat × Value), q ∈ las G i0 ls → ∃ i v, q = (i0 + i, rV G v) ∧ ls[i]? = some (some v)
  | [], i0, q, h => by simp [las] at h
  | none :: t, i0, q, h => by
    obtain ⟨i, v, h1, h2⟩ := las_of t (i0 + 1) q h
    exact ⟨i + 1, v, by rw [h1, show i0 + 1 + i = i0 + (i + 1) by omega], by rw [List.getElem?_cons_succ]; exact h2⟩
  | some w :: t, i0, q, h => by
    rcases List.mem_cons.mp h with h | h
    · exact ⟨0, w, h, rfl⟩
    · obtain ⟨i, v, h1, h2⟩ := las_of t (i0 + 1) q h
      exact ⟨i + 1, v, by rw [h1, show i0 + 1 + i = i0 + (i + 1) by omega], by rw [List.getElem?_cons_succ]; exact h2⟩
theorem las_at {G : aG} {ls : aL} {n i : Nat} {v : Value} {lsr : Array Slot} (hl : lv_has lsr n (las G 0 ls)) (h : ls[i]? = some (some v)) : lsr[i]? = some (.val (rV G v)) := by
  have := hl.2.2 _ (las_mem ls i 0 v h)
  rwa [Nat.zero_add] at this
theorem lvh_mono {lsr : Array Slot} {n : Nat} {a b : List (Nat × Value)} (h : lv_has lsr n a) (hb : ∀ q ∈ b, q ∈ a) : lv_has lsr n b := ⟨h.1, h.2.1, fun q hq => h.2.2 q (hb q hq)⟩
theorem lvc_len : ∀ (ls : aL) (i : Nat) (v : Value), (lvc ls i v).length = ls.length
  | [], _, _ => rfl
  | _ :: t, 0, v => rfl
  | x :: t, 1, v => by simp [lvc, lvc_len t 0 v]
  | x :: t, i + 2, v => by simp [lvc, lvc_len t (i + 1) v]
theorem lvd_len : ∀ (ls : aL) (i : Nat) (v : Value), (lvd ls i v).length = ls.length
  | [], _, _ => rfl
  | [_], 0, v => rfl
  | _ :: _ :: t, 0, v => rfl
  | x :: t, 1, v => by simp [lvd, lvd_len t 0 v]
  | x :: t, i + 2, v => by simp [lvd, lvd_len t (i + 1) v]
theorem rV_cat (G : aG) (v : Value) : (rV G v).category = v.category := by cases v <;> rfl
theorem lvc_at : ∀ (ls : aL) (i j : Nat) (v w : Value), (lvc ls i v)[j]? = some (some w) → (j = i ∧ w = v) ∨ (j ≠ i ∧ ls[j]? = some (some w) ∧ ¬ (j + 1 = i ∧ w.category = 2 ∧ isLg (some w) = true))
  | [], i, j, v, w, h => by simp [lvc] at h
  | _ :: t, 0, 0, v, w, h => by simp [lvc] at h; exact Or.inl ⟨rfl, h.symm⟩
  | x :: t, 0, j + 1, v, w, h => by
    simp only [lvc, List.getElem?_cons_succ] at h
    exact Or.inr ⟨by omega, by simpa using h, by omega⟩
  | x :: t, 1, 0, v, w, h => by
    simp only [lvc, List.getElem?_cons_zero] at h
    refine Or.inr ⟨by omega, ?_, ?_⟩
    · by_cases hx : isLg x = true
      · simp [hx] at h
      · simp [hx] at h; simp [h]
    · intro hq
      by_cases hx : isLg x = true
      · simp [hx] at h
      · simp [hx] at h; rw [h] at hx; exact hx hq.2.2
  | x :: t, 1, j + 1, v, w, h => by
    simp only [lvc, List.getElem?_cons_succ] at h
    rcases lvc_at t 0 j v w h with ⟨h1, h2⟩ | ⟨h1, h2, h3⟩
    · exact Or.inl ⟨by omega, h2⟩
    · exact Or.inr ⟨by omega, by simpa using h2, by omega⟩
  | x :: t, i + 2, 0, v, w, h => by
    simp only [lvc, List.getElem?_cons_zero] at h
    exact Or.inr ⟨by omega, by simpa using h, by omega⟩
  | x :: t, i + 2, j + 1, v, w, h => by
    simp only [lvc, List.getElem?_cons_succ] at h
    rcases lvc_at t (i + 1) j v w h with ⟨h1, h2⟩ | ⟨h1, h2, h3⟩
    · exact Or.inl ⟨by omega, h2⟩
    · exact Or.inr ⟨by omega, by simpa using h2, fun q => h3 ⟨by omega, q.2⟩⟩
theorem lvd_at : ∀ (ls : aL) (i j : Nat) (v w : Value), i + 1 < ls.length → (lvd ls i v)[j]? = some (some w) → (j = i ∧ w = v) ∨ (j ≠ i ∧ j ≠ i + 1 ∧ ls[j]? = some (some w) ∧ ¬ (j + 1 = i ∧ w.category = 2 ∧ isLg (some w) = true))
  | [], i, j, v, w, hi, h => by simp [lvd] at h
  | [_], 0, j, v, w, hi, h => by simp at hi
  | _ :: _ :: t, 0, 0, v, w, hi, h => by simp [lvd] at h; exact Or.inl ⟨rfl, h.symm⟩
  | _ :: _ :: t, 0, 1, v, w, hi, h => by simp [lvd] at h
  | x :: y :: t, 0, j + 2, v, w, hi, h => by
    simp only [lvd, List.getElem?_cons_succ] at h
    exact Or.inr ⟨by omega, by omega, by simpa using h, by omega⟩
  | x :: t, 1, 0, v, w, hi, h => by
    simp only [lvd, List.getElem?_cons_zero] at h
    refine Or.inr ⟨by omega, by omega, ?_, ?_⟩
    · by_cases hx : isLg x = true
      · simp [hx] at h
      · simp [hx] at h; simp [h]
    · intro hq
      by_cases hx : isLg x = true
      · simp [hx] at h
      · simp [hx] at h; rw [h] at hx; exact hx hq.2.2
  | x :: t, 1, j + 1, v, w, hi, h => by
    simp only [lvd, List.getElem?_cons_succ] at h
    rcases lvd_at t 0 j v w (by simp at hi; omega) h with ⟨h1, h2⟩ | ⟨h1, h2, h3, h4⟩
    · exact Or.inl ⟨by omega, h2⟩
    · exact Or.inr ⟨by omega, by omega, by simpa using h3, by omega⟩
  | x :: t, i + 2, 0, v, w, hi, h => by
    simp only [lvd, List.getElem?_cons_zero] at h
    exact Or.inr ⟨by omega, by omega, by simpa using h, by omega⟩
  | x :: t, i + 2, j + 1, v, w, hi, h => by
    simp only [lvd, List.getElem?_cons_succ] at h
    rcases lvd_at t (i + 1) j v w (by simp at hi; omega) h with ⟨h1, h2⟩ | ⟨h1, h2, h3, h4⟩
    · exact Or.inl ⟨by omega, h2⟩
    · exact Or.inr ⟨by omega, by omega, by simpa using h3, fun q => h4 ⟨by omega, q.2⟩⟩
theorem isLg_noF {w : Value} (h : w.category = 2) : isLg (some w) = true := by
  cases w <;> simp_all [Value.category, isLg]
theorem las_st1 {G : aG} {ls : aL} {i : Nat} {v : Value} : ∀ q ∈ las G 0 (lvc ls i v), q ∈ (i, rV G v) :: (las G 0 ls).filter (fun q => !(q.1 == i) && !(q.1 + 1 == i && q.2.category == 2)) := by
  intro q hq
  obtain ⟨j, w, rfl, h⟩ := las_of _ _ _ hq
  rw [Nat.zero_add]
  rcases lvc_at _ _ _ _ _ h with ⟨h1, h2⟩ | ⟨h1, h2, h3⟩
  · rw [h1, h2]; exact List.mem_cons_self
  · refine List.mem_cons_of_mem _ (List.mem_filter.mpr ⟨?_, ?_⟩)
    · have := las_mem (G := G) ls j 0 w h2
      rwa [Nat.zero_add] at this
    · simp only [rV_cat, Bool.and_eq_true, Bool.not_eq_true', beq_eq_false_iff_ne, ne_eq, Bool.and_eq_false_iff]
      refine ⟨h1, ?_⟩
      by_cases hj : j + 1 = i
      · right
        intro hc
        exact h3 ⟨hj, hc, isLg_noF hc⟩
      · exact Or.inl hj
theorem las_st2 {G : aG} {ls : aL} {i : Nat} {v : Value} (hi : i + 1 < ls.length) : ∀ q ∈ las G 0 (lvd ls i v), q ∈ (i, rV G v) :: (las G 0 ls).filter (fun q => !(q.1 == i) && (!(q.1 == i + 1) && !(q.1 + 1 == i && q.2.category == 2))) := by
  intro q hq
  obtain ⟨j, w, rfl, h⟩ := las_of _ _ _ hq
  rw [Nat.zero_add]
  rcases lvd_at _ _ _ _ _ hi h with ⟨h1, h2⟩ | ⟨h1, h1', h2, h3⟩
  · rw [h1, h2]; exact List.mem_cons_self
  · refine List.mem_cons_of_mem _ (List.mem_filter.mpr ⟨?_, ?_⟩)
    · have := las_mem (G := G) ls j 0 w h2
      rwa [Nat.zero_add] at this
    · simp only [rV_cat, Bool.and_eq_true, Bool.not_eq_true', beq_eq_false_iff_ne, ne_eq, Bool.and_eq_false_iff]
      refine ⟨h1, h1', ?_⟩
      by_cases hj : j + 1 = i
      · right
        intro hc
        exact h3 ⟨hj, hc, isLg_noF hc⟩
      · exact Or.inl hj
