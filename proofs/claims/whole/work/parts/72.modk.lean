/-! good PLANS, told of the whole CLOTH -/
theorem bb_0 {p : Nat → Bool} : ∀ n, bb p n = 0 ↔ ∀ k, k < n → p k = false
  | 0 => ⟨fun _ k hk => absurd hk (Nat.not_lt_zero _), fun _ => rfl⟩
  | n + 1 => by
    have ih := bb_0 (p := p) n
    simp only [bb]
    by_cases hp : p n = true
    · rw [if_pos hp]
      have : 0 < 2 ^ n := Nat.pow_pos (by decide)
      exact ⟨fun q => by omega, fun q => by rw [q n (by omega)] at hp; cases hp⟩
    · rw [if_neg hp, Nat.add_zero, ih]
      refine ⟨fun q k hk => ?_, fun q k hk => q k (by omega)⟩
      by_cases hkn : k = n
      · subst hkn; exact Bool.eq_false_iff.mpr hp
      · exact q k (by omega)
theorem exF_f {p : Nat → Bool} {i m : Nat} : exF p i m = false ↔ ∀ k, i ≤ k → k < i + m → p k = false := by
  rw [Bool.eq_false_iff, Ne, exF_iff]
  constructor
  · intro h k h1 h2
    exact Bool.eq_false_iff.mpr (fun q => h ⟨k, h1, h2, q⟩)
  · rintro h ⟨k, h1, h2, q⟩
    rw [h k h1 h2] at q; cases q
theorem brIn_0 {K C E H : Nat → Int32} {k : Nat} : brIn K C E H k 0 = false := by
  unfold brIn
  have : (0 - (if K k = 4 then 0 else 0 - 1)) = 0 := by split <;> rfl
  rw [this]; simp [exF]
theorem brb_0 {c : Cl} : brb c = 0 ↔ ∀ y, y < cN c → exF (fun k => brIn (cK c) (cC c) (cEn c) (hap c) k y) 0 (cL c) = false := by
  unfold brb
  rw [bb_0]
  unfold bro brk
  constructor
  · intro h y hy
    rw [exF_f]
    intro k _ hk
    by_cases hy0 : y = 0
    · subst hy0; exact brIn_0
    · exact exF_f.mp (h k (by omega)) y (by omega) (by omega)
  · intro h k hk
    rw [exF_f]
    intro y h1 h2
    exact exF_f.mp (h y (by omega)) k (Nat.zero_le _) (by omega)
theorem hap_pl {c : Cl} {p : Nat → Nat} {y : Nat} (hL : cL c ≤ 8) (hp : ∀ y, p y < 7) (hy : y < cN c) : hap (plC c p (cN c)) y = hpP (cW c) (cS c) (cK c) (cC c) (cEn c) (cL c) p y := by
  refine hapF_cg hL (fun _ _ => rfl) (fun _ _ => rfl) (fun _ _ => rfl) y (fun z hz => ?_) (fun z hz => ?_)
  · show (if z < cN c then chWi (cW c z) (nI (p z)) else cW c z) = _
    rw [if_pos (by omega), chWi_n (hp z)]
  · show (if z < cN c then chSi (cS c z) (nI (p z)) else cS c z) = _
    rw [if_pos (by omega), chSi_n (hp z)]
/-- a good PLAN -/
theorem gd_iff {c : Cl} {wan : Nat → Int32} {wh pl : Bool} {most code : Nat} (hL : cL c ≤ 8) : gd c wan wh pl most code = true ↔ (∀ y, y < cN c → alP pl (cW c y) (dgc (cN c) code y) = true) ∧ ctP (dgc (cN c) code) (cN c) ≤ most ∧ (∀ y, y < cN c → ¬ wan y &&& hbF (hap (plC c (dgc (cN c) code) (cN c)) y) = 0) ∧ (wh = true → brb (plC c (dgc (cN c) code) (cN c)) = 0) := by
  have hp : ∀ y, dgc (cN c) code y < 7 := fun y => dgc_7
  generalize hpp : dgc (cN c) code = p at hp
  unfold gd gdC
  rw [hpp, alF_iff]
  have hh : ∀ y, y < cN c → hap (plC c p (cN c)) y = hpP (cW c) (cS c) (cK c) (cC c) (cEn c) (cL c) p y := fun y hy => hap_pl hL hp hy
  have hb : ∀ y, y < cN c → exF (fun k => brIn (cK c) (cC c) (cEn c) (hap (plC c p (cN c))) k y) 0 (cL c) = exF (fun k => brIn (cK c) (cC c) (cEn c) (hpP (cW c) (cS c) (cK c) (cC c) (cEn c) (cL c) p) k y) 0 (cL c) := fun y hy => exF_cg _ _ (fun k _ _ => brIn_cg rfl rfl rfl (fun x hx => hh x (by omega)))
  constructor
  · intro h
    have ok : ∀ y, y < cN c → alP pl (cW c y) (p y) = true ∧ ctP p (y + 1) ≤ most ∧ ¬ wan y &&& hbF (hpP (cW c) (cS c) (cK c) (cC c) (cEn c) (cL c) p y) = 0 ∧ (wh = true → exF (fun k => brIn (cK c) (cC c) (cEn c) (hpP (cW c) (cS c) (cK c) (cC c) (cEn c) (cL c) p) k y) 0 (cL c) = false) := by
      intro y hy
      have := h y (Nat.zero_le _) (by omega)
      unfold okY ftP at this
      simp only [Bool.and_eq_true, decide_eq_true_eq, Bool.not_eq_true', decide_eq_false_iff_not, Bool.or_eq_true] at this
      obtain ⟨h1, h2, h3, h4⟩ := this
      refine ⟨h1, h2, h3, fun hw => ?_⟩
      rcases h4 with h4 | h4
      · rw [h4] at hw; cases hw
      · exact h4
    refine ⟨fun y hy => (ok y hy).1, ?_, fun y hy => by rw [hh y hy]; exact (ok y hy).2.2.1, fun hw => ?_⟩
    · cases hn : cN c with
      | zero => exact Nat.zero_le _
      | succ n => exact (ok n (by omega)).2.1
    · rw [brb_0]; intro y hy
      have hy : y < cN c := hy
      show exF (fun k => brIn (cK c) (cC c) (cEn c) (hap (plC c p (cN c))) k y) 0 (cL c) = false
      rw [hb y hy]; exact (ok y hy).2.2.2 hw
  · rintro ⟨h1, h2, h3, h4⟩ y _ hy
    have hy : y < cN c := by omega
    unfold okY ftP
    simp only [Bool.and_eq_true, decide_eq_true_eq, Bool.not_eq_true', decide_eq_false_iff_not, Bool.or_eq_true]
    refine ⟨h1 y hy, Nat.le_trans (ctP_le (by omega)) h2, by rw [← hh y hy]; exact h3 y hy, ?_⟩
    cases hw : wh
    · exact Or.inl rfl
    · refine Or.inr ?_
      rw [← hb y hy]
      exact brb_0.mp (h4 hw) y hy
theorem alP_f {w : Int32} {k : Nat} : alP false w k = alC w k := by unfold alP; rfl
/-- only one SCENE is wanted, in one YEAR -/
theorem hb_S {h s : Int32} (hh : h = -9 ∨ vp_in h 5) (hs : vp_in s 5) : (((1 : Int32) <<< (s &&& 31)) &&& hbF h = 0) ↔ ¬ h = s := by
  obtain ⟨j, hj, rfl⟩ := vp_in_of hs (by decide)
  rcases hh with rfl | hh
  · rcases (show j = 0 ∨ j = 1 ∨ j = 2 ∨ j = 3 ∨ j = 4 by omega) with rfl | rfl | rfl | rfl | rfl <;> decide
  · obtain ⟨i, hi, rfl⟩ := vp_in_of hh (by decide)
    rcases (show j = 0 ∨ j = 1 ∨ j = 2 ∨ j = 3 ∨ j = 4 by omega) with rfl | rfl | rfl | rfl | rfl <;> rcases (show i = 0 ∨ i = 1 ∨ i = 2 ∨ i = 3 ∨ i = 4 by omega) with rfl | rfl | rfl | rfl | rfl <;> decide
theorem hb_63 {h : Int32} (hh : h = -9 ∨ vp_in h 5) : ¬ (63 : Int32) &&& hbF h = 0 := by
  rcases hh with rfl | hh
  · decide
  · obtain ⟨i, hi, rfl⟩ := vp_in_of hh (by decide)
    rcases (show i = 0 ∨ i = 1 ∨ i = 2 ∨ i = 3 ∨ i = 4 by omega) with rfl | rfl | rfl | rfl | rfl <;> decide
theorem hb_A {h s : Int32} (hh : h = -9 ∨ vp_in h 5) (hs : vp_in s 5) : ((63 &&& (((1 : Int32) <<< (s &&& 31)) ^^^ -1)) &&& hbF h = 0) ↔ h = s := by
  obtain ⟨j, hj, rfl⟩ := vp_in_of hs (by decide)
  rcases hh with rfl | hh
  · rcases (show j = 0 ∨ j = 1 ∨ j = 2 ∨ j = 3 ∨ j = 4 by omega) with rfl | rfl | rfl | rfl | rfl <;> decide
  · obtain ⟨i, hi, rfl⟩ := vp_in_of hh (by decide)
    rcases (show j = 0 ∨ j = 1 ∨ j = 2 ∨ j = 3 ∨ j = 4 by omega) with rfl | rfl | rfl | rfl | rfl <;> rcases (show i = 0 ∨ i = 1 ∨ i = 2 ∨ i = 3 ∨ i = 4 by omega) with rfl | rfl | rfl | rfl | rfl <;> decide
theorem hb_F {h s : Int32} (hh : h = -9 ∨ vp_in h 5) (hs : s = -9 ∨ vp_in s 5) : (hbF s &&& hbF h = 0) ↔ ¬ h = s := by
  rcases hs with rfl | hs
  · rcases hh with rfl | hh
    · decide
    · obtain ⟨i, hi, rfl⟩ := vp_in_of hh (by decide)
      rcases (show i = 0 ∨ i = 1 ∨ i = 2 ∨ i = 3 ∨ i = 4 by omega) with rfl | rfl | rfl | rfl | rfl <;> decide
  · have e : hbF s = (1 : Int32) <<< (s &&& 31) := by
      unfold hbF; rw [if_neg (fun q => by rw [q] at hs; exact hs (Or.inl (by decide)))]
    rw [e]; exact hb_S hh hs
