/-! the fewest STITCHES: the first of the least -/
/-- after k codes: least count so far (1000000: none), and its code -/
def bsT (G : Nat → Bool) (ct : Nat → Nat) : Nat → Nat × Nat
  | 0 => (1000000, 0)
  | k + 1 => if G k = true ∧ ct k < (bsT G ct k).1 then (ct k, k) else bsT G ct k
theorem bsT_in {G : Nat → Bool} {ct : Nat → Nat} : ∀ k, (bsT G ct k).1 = 1000000 ∨ ((bsT G ct k).2 < k ∧ G (bsT G ct k).2 = true ∧ (bsT G ct k).1 = ct (bsT G ct k).2)
  | 0 => Or.inl rfl
  | k + 1 => by
    simp only [bsT]
    by_cases h : G k = true ∧ ct k < (bsT G ct k).1
    · rw [if_pos h]; exact Or.inr ⟨by omega, h.1, rfl⟩
    · rw [if_neg h]
      rcases bsT_in (G := G) (ct := ct) k with q | q
      · exact Or.inl q
      · exact Or.inr ⟨by omega, q.2⟩
theorem bsT_le {G : Nat → Bool} {ct : Nat → Nat} : ∀ k j, j < k → G j = true → (bsT G ct k).1 ≤ ct j
  | 0, j, h, _ => absurd h (by omega)
  | k + 1, j, h, hg => by
    simp only [bsT]
    by_cases hc : G k = true ∧ ct k < (bsT G ct k).1
    · rw [if_pos hc]
      by_cases hjk : j = k
      · subst hjk; exact Nat.le_refl _
      · have := bsT_le (G := G) (ct := ct) k j (by omega) hg
        show ct k ≤ ct j; omega
    · rw [if_neg hc]
      by_cases hjk : j = k
      · subst hjk; exact Nat.not_lt.mp (fun q => hc ⟨hg, q⟩)
      · exact bsT_le k j (by omega) hg
/-- none ahead of it has so few -/
theorem bsT_fst {G : Nat → Bool} {ct : Nat → Nat} : ∀ k j, (bsT G ct k).1 < 1000000 → j < (bsT G ct k).2 → G j = true → (bsT G ct k).1 < ct j
  | 0, j, h, _, _ => absurd (show 1000000 < 1000000 from h) (by decide)
  | k + 1, j, h, hj, hg => by
    simp only [bsT] at h hj ⊢
    by_cases hc : G k = true ∧ ct k < (bsT G ct k).1
    · rw [if_pos hc] at hj ⊢
      have hj : j < k := hj
      have := bsT_le (G := G) (ct := ct) k j hj hg
      show ct k < ct j; omega
    · rw [if_neg hc] at h hj ⊢
      exact bsT_fst k j h hj hg
/-- the same, by the fewest -/
theorem fewF_of {F : Nat → Nat} : ∀ (k m : Nat), (fewF F k m = none ∧ ∀ j, m ≤ j → j < m + k → F j = 0) ∨ ∃ j, fewF F k m = some j ∧ m ≤ j ∧ j < m + k ∧ 0 < F j ∧ ∀ i, m ≤ i → i < j → F i = 0
  | 0, m => Or.inl ⟨rfl, fun j h1 h2 => absurd h1 (by omega)⟩
  | k + 1, m => by
    simp only [fewF]
    by_cases h : 0 < F m
    · rw [if_pos h]; exact Or.inr ⟨m, rfl, by omega, by omega, h, fun i h1 h2 => absurd h1 (by omega)⟩
    · rw [if_neg h]
      rcases fewF_of (F := F) k (m + 1) with ⟨h1, h2⟩ | ⟨j, h1, h2, h3, h4, h5⟩
      · refine Or.inl ⟨h1, fun j a b => ?_⟩
        by_cases hj : j = m
        · subst hj; omega
        · exact h2 j (by omega) (by omega)
      · refine Or.inr ⟨j, h1, by omega, by omega, h4, fun i a b => ?_⟩
        by_cases hi : i = m
        · subst hi; omega
        · exact h5 i (by omega) b
theorem cn_pos {g : Nat → Bool} : ∀ n, 0 < cn g n ↔ ∃ k, k < n ∧ g k = true
  | 0 => ⟨fun h => absurd (show 0 < 0 from h) (by decide), fun ⟨k, hk, _⟩ => absurd hk (by omega)⟩
  | n + 1 => by
    by_cases h : g n = true
    · rw [cn_t h]; exact ⟨fun _ => ⟨n, by omega, h⟩, fun _ => by omega⟩
    · rw [cn_f (Bool.eq_false_iff.mpr h), cn_pos n]
      refine ⟨fun ⟨k, hk, hg⟩ => ⟨k, by omega, hg⟩, fun ⟨k, hk, hg⟩ => ⟨k, ?_, hg⟩⟩
      by_cases hkn : k = n
      · subst hkn; exact absurd hg h
      · omega
theorem fsC_is {g : Nat → Bool} : ∀ n k, k < n → g k = true → (∀ j, j < k → g j = false) → fsC g n = k
  | 0, k, h, _, _ => absurd h (by omega)
  | n + 1, k, h, hg, hf => by
    show (if 0 < cn g n then fsC g n else n) = k
    by_cases hkn : k = n
    · subst hkn
      rw [if_neg (fun q => by obtain ⟨j, hj, hgj⟩ := (cn_pos k).mp q; rw [hf j hj] at hgj; cases hgj)]
    · rw [if_pos ((cn_pos n).mpr ⟨k, by omega, hg⟩)]; exact fsC_is n k (by omega) hg hf
/-- fewest and the search agree -/
theorem few_eq {G : Nat → Bool} {ct : Nat → Nat} {F : Nat → Nat → Bool} {N M : Nat} (hF : ∀ m k, F m k = true ↔ (G k = true ∧ ct k ≤ m)) (hct : ∀ k, ct k ≤ N) (hN : N < 1000000) : ((bsT G ct M).1 = 1000000 ∧ fewF (fun m => cn (F m) M) (N + 1) 0 = none) ∨ ((bsT G ct M).1 ≤ N ∧ (bsT G ct M).2 < M ∧ fewF (fun m => cn (F m) M) (N + 1) 0 = some (bsT G ct M).1 ∧ fsC (F (bsT G ct M).1) M = (bsT G ct M).2) := by
  rcases bsT_in (G := G) (ct := ct) M with h | ⟨h1, h2, h3⟩
  · refine Or.inl ⟨h, ?_⟩
    rcases fewF_of (F := fun m => cn (F m) M) (N + 1) 0 with q | ⟨j, q1, q2, q3, q4, q5⟩
    · exact q.1
    · obtain ⟨k, hk, hg⟩ := (cn_pos M).mp q4
      have := bsT_le (ct := ct) M k hk ((hF j k).mp hg).1
      have := hct k
      omega
  · refine Or.inr ⟨by rw [h3]; exact hct _, h1, ?_, ?_⟩
    · rcases fewF_of (F := fun m => cn (F m) M) (N + 1) 0 with ⟨q1, q2⟩ | ⟨j, q1, q2, q3, q4, q5⟩
      · have := q2 (bsT G ct M).1 (Nat.zero_le _) (by rw [h3]; have := hct (bsT G ct M).2; omega)
        have := (cn_pos (g := F (bsT G ct M).1) M).mpr ⟨_, h1, (hF _ _).mpr ⟨h2, by omega⟩⟩
        omega
      · rw [q1]
        obtain ⟨k, hk, hg⟩ := (cn_pos M).mp q4
        have a1 := bsT_le (ct := ct) M k hk ((hF j k).mp hg).1
        have a2 := ((hF j k).mp hg).2
        by_cases hj : j = (bsT G ct M).1
        · rw [hj]
        · have a3 := q5 (bsT G ct M).1 (Nat.zero_le _) (by omega)
          have a4 := (cn_pos (g := F (bsT G ct M).1) M).mpr ⟨_, h1, (hF _ _).mpr ⟨h2, by omega⟩⟩
          omega
    · refine fsC_is M _ h1 ((hF _ _).mpr ⟨h2, by omega⟩) (fun j hj => Bool.eq_false_iff.mpr (fun q => ?_))
      have a1 := (hF _ _).mp q
      have a2 := bsT_fst (ct := ct) M j (by rw [h3]; have := hct (bsT G ct M).2; omega) hj a1.1
      omega
