/-! plans over plain YEARS, counted in two ways -/
def tk (d : Nat) (p : Nat → Nat) : Nat → Nat
  | 0 => d
  | y + 1 => p y
def sm (f : Nat → Nat) : Nat → Nat
  | 0 => 0
  | n + 1 => sm f n + f n
theorem sm_cg {f g : Nat → Nat} : ∀ n, (∀ k, k < n → f k = g k) → sm f n = sm g n
  | 0, _ => rfl
  | n + 1, h => by simp only [sm]; rw [sm_cg n (fun k hk => h k (by omega)), h n (by omega)]
def plS : Nat → (Nat → Nat → Bool) → ((Nat → Nat) → Bool) → Nat
  | 0, _, Q => if Q (fun _ => 0) then 1 else 0
  | n + 1, ok, Q => sm (fun d => if ok 0 d then plS n (fun y => ok (y + 1)) (fun p => Q (tk d p)) else 0) 7
def exN (n : Nat) (Q : (Nat → Nat) → Bool) : Prop := ∀ p q, (∀ y, y < n → p y = q y) → Q p = Q q
theorem exN_tk {n d : Nat} {Q : (Nat → Nat) → Bool} (h : exN (n + 1) Q) : exN n (fun p => Q (tk d p)) := by
  intro p q hpq
  refine h _ _ (fun y hy => ?_)
  cases y with
  | zero => rfl
  | succ y => exact hpq y (by omega)
theorem cn_add {g : Nat → Bool} {a : Nat} : ∀ m, cn g (a + m) = cn g a + cn (fun k => g (a + k)) m
  | 0 => rfl
  | m + 1 => by
    show cn g (a + m) + (if g (a + m) then 1 else 0) = cn g a + (cn (fun k => g (a + k)) m + (if g (a + m) then 1 else 0))
    rw [cn_add m, Nat.add_assoc]
theorem cn_blk {g : Nat → Bool} {m : Nat} : ∀ k, cn g (k * m) = sm (fun d => cn (fun r => g (d * m + r)) m) k
  | 0 => by rw [Nat.zero_mul]; rfl
  | k + 1 => by rw [Nat.succ_mul, cn_add, cn_blk k]; rfl
theorem cn_il {g : Nat → Bool} : ∀ m, cn g (m * 6) = sm (fun d => cn (fun r => g (r * 6 + d)) m) 6
  | 0 => rfl
  | m + 1 => by
    have ih := cn_il (g := g) m
    rw [Nat.succ_mul]
    simp only [cn, sm, Nat.add_zero] at ih ⊢
    omega
theorem cn_sh {p : Nat → Bool} : ∀ n, cn p (n + 1) = (if p 0 then 1 else 0) + cn (fun k => p (k + 1)) n
  | 0 => by show 0 + (if p 0 then 1 else 0) = (if p 0 then 1 else 0) + 0; omega
  | n + 1 => by
    have ih := cn_sh (p := p) n
    show cn p (n + 1) + (if p (n + 1) then 1 else 0) = (if p 0 then 1 else 0) + (cn (fun k => p (k + 1)) n + (if p (n + 1) then 1 else 0))
    omega
theorem dgc_0 {n d r : Nat} (hd : d < 7) (hr : r < 7 ^ n) : dgc (n + 1) (d * 7 ^ n + r) 0 = d := by
  unfold dgc
  rw [show n + 1 - 1 - 0 = n by omega]
  have hpos : 0 < 7 ^ n := Nat.pow_pos (by decide)
  rw [Nat.add_comm, Nat.add_mul_div_right _ _ hpos, Nat.div_eq_of_lt hr, Nat.zero_add, Nat.mod_eq_of_lt hd]
theorem dgc_s {n d r y : Nat} (hy : y < n) : dgc (n + 1) (d * 7 ^ n + r) (y + 1) = dgc n r y := by
  unfold dgc
  rw [show n + 1 - 1 - (y + 1) = n - 1 - y by omega]
  generalize hk : n - 1 - y = k
  have e : 7 ^ n = 7 * 7 ^ (n - k - 1) * 7 ^ k := by
    rw [Nat.mul_comm 7, ← Nat.pow_succ, ← Nat.pow_add]
    congr 1; omega
  have hpos : 0 < 7 ^ k := Nat.pow_pos (by decide)
  rw [e, ← Nat.mul_assoc, Nat.add_comm, Nat.add_mul_div_right _ _ hpos, ← Nat.mul_assoc, Nat.mul_comm d 7, Nat.mul_assoc, Nat.add_mul_mod_self_left]
theorem alF_sh {p : Nat → Bool} : ∀ (m i : Nat), alF p (i + 1) m = alF (fun k => p (k + 1)) i m
  | 0, _ => rfl
  | m + 1, i => by simp only [alF]; rw [alF_sh m (i + 1)]
theorem plS_c : ∀ (n : Nat) (ok : Nat → Nat → Bool) (Q : (Nat → Nat) → Bool), exN n Q → cn (fun code => alF (fun y => ok y (dgc n code y)) 0 n && Q (dgc n code)) (7 ^ n) = plS n ok Q
  | 0, ok, Q, h => by
    show 0 + (if (true && Q (dgc 0 0)) then 1 else 0) = if Q (fun _ => 0) then 1 else 0
    rw [h (dgc 0 0) (fun _ => 0) (fun y hy => absurd hy (by omega)), Bool.true_and, Nat.zero_add]
  | n + 1, ok, Q, h => by
    rw [Nat.pow_succ, Nat.mul_comm, cn_blk]
    simp only [plS]
    refine sm_cg 7 (fun d hd => ?_)
    by_cases ho : ok 0 d = true
    · rw [if_pos ho, ← plS_c n _ _ (exN_tk h)]
      refine cn_cg _ (fun r hr => ?_)
      have e1 : alF (fun y => ok y (dgc (n + 1) (d * 7 ^ n + r) y)) 0 (n + 1) = alF (fun y => ok (y + 1) (dgc n r y)) 0 n := by
        show (ok 0 (dgc (n + 1) (d * 7 ^ n + r) 0) && alF (fun y => ok y (dgc (n + 1) (d * 7 ^ n + r) y)) (0 + 1) n) = _
        rw [dgc_0 hd hr, ho, Bool.true_and, alF_sh]
        exact alF_cg _ _ (fun k _ hk => by rw [dgc_s (by omega)])
      rw [e1]
      have e2 : Q (dgc (n + 1) (d * 7 ^ n + r)) = Q (tk d (dgc n r)) := h _ _ (fun y hy => by
        cases y with
        | zero => exact dgc_0 hd hr
        | succ y => exact dgc_s (by omega))
      rw [e2]
    · rw [if_neg ho]
      have : cn (fun r => alF (fun y => ok y (dgc (n + 1) (d * 7 ^ n + r) y)) 0 (n + 1) && Q (dgc (n + 1) (d * 7 ^ n + r))) (7 ^ n) = cn (fun r => alF (fun y => ok y (dgc (n + 1) (d * 7 ^ n + r) y)) 0 (n + 1) && Q (dgc (n + 1) (d * 7 ^ n + r))) 0 := by
        have := cn_skip (g := fun r => alF (fun y => ok y (dgc (n + 1) (d * 7 ^ n + r) y)) 0 (n + 1) && Q (dgc (n + 1) (d * 7 ^ n + r))) (a := 0) (7 ^ n) (fun r _ hr => by
          show ((ok 0 (dgc (n + 1) (d * 7 ^ n + r) 0) && alF (fun y => ok y (dgc (n + 1) (d * 7 ^ n + r) y)) (0 + 1) n) && _) = false
          rw [dgc_0 hd (by omega), Bool.eq_false_iff.mpr ho, Bool.false_and, Bool.false_and])
        rw [Nat.zero_add] at this; exact this
      exact this
def dm (d : Nat) : Nat := if d = 5 then 6 else d
def rdg (pl : Nat → Bool) (q y : Nat) : Nat := if pl y then dm (q / 6 ^ cn pl y % 6) else 6
def okR (pl : Nat → Bool) (y d : Nat) : Bool := if pl y then !decide (d = 5) else decide (d = 6)
theorem rdg_t {pl : Nat → Bool} {r d : Nat} (hd : d < 6) (h : pl 0 = true) : rdg pl (r * 6 + d) = tk (dm d) (rdg (fun y => pl (y + 1)) r) := by
  funext y
  cases y with
  | zero =>
    show (if pl 0 then dm ((r * 6 + d) / 6 ^ 0 % 6) else 6) = dm d
    rw [if_pos h, Nat.pow_zero, Nat.div_one]
    congr 1; omega
  | succ y =>
    show (if pl (y + 1) then dm ((r * 6 + d) / 6 ^ cn pl (y + 1) % 6) else 6) = (if pl (y + 1) then dm (r / 6 ^ cn (fun y => pl (y + 1)) y % 6) else 6)
    have e : ∀ k, (r * 6 + d) / 6 ^ (1 + k) = r / 6 ^ k := fun k => by
      rw [Nat.pow_add, Nat.pow_one, ← Nat.div_div_eq_div_mul, show (r * 6 + d) / 6 = r by omega]
    rw [cn_sh, if_pos h, e]
theorem rdg_f {pl : Nat → Bool} {q : Nat} (h : pl 0 = false) : rdg pl q = tk 6 (rdg (fun y => pl (y + 1)) q) := by
  funext y
  cases y with
  | zero =>
    show (if pl 0 then dm (q / 6 ^ 0 % 6) else 6) = 6
    rw [h]; rfl
  | succ y =>
    show (if pl (y + 1) then dm (q / 6 ^ cn pl (y + 1) % 6) else 6) = (if pl (y + 1) then dm (q / 6 ^ cn (fun y => pl (y + 1)) y % 6) else 6)
    rw [cn_sh, h]
    have e : (if false = true then 1 else 0) + cn (fun k => pl (k + 1)) y = cn (fun k => pl (k + 1)) y := by rw [if_neg (by decide), Nat.zero_add]
    rw [e]
theorem plS_r : ∀ (n : Nat) (pl : Nat → Bool) (Q : (Nat → Nat) → Bool), exN n Q → cn (fun q => Q (rdg pl q)) (6 ^ cn pl n) = plS n (okR pl) Q
  | 0, pl, Q, h => by
    show 0 + (if Q (rdg pl 0) then 1 else 0) = if Q (fun _ => 0) then 1 else 0
    rw [h (rdg pl 0) (fun _ => 0) (fun y hy => absurd hy (by omega)), Nat.zero_add]
  | n + 1, pl, Q, h => by
    have ih : ∀ d, cn (fun q => Q (tk d (rdg (fun y => pl (y + 1)) q))) (6 ^ cn (fun y => pl (y + 1)) n) = plS n (okR (fun y => pl (y + 1))) (fun p => Q (tk d p)) := fun d => plS_r n _ _ (exN_tk h)
    rw [cn_sh]
    show _ = sm (fun d => if okR pl 0 d then plS n (okR (fun y => pl (y + 1))) (fun p => Q (tk d p)) else 0) 7
    by_cases hp : pl 0 = true
    · rw [if_pos hp, Nat.add_comm 1, Nat.pow_succ, cn_il]
      have e : sm (fun d => cn (fun r => Q (rdg pl (r * 6 + d))) (6 ^ cn (fun y => pl (y + 1)) n)) 6 = sm (fun d => plS n (okR (fun y => pl (y + 1))) (fun p => Q (tk (dm d) p))) 6 := sm_cg 6 (fun d hd => by
        rw [← ih]
        exact cn_cg _ (fun r _ => by rw [rdg_t hd hp]))
      rw [e]
      have ok : ∀ d, okR pl 0 d = !decide (d = 5) := fun d => by unfold okR; rw [if_pos hp]
      simp only [sm, ok]
      simp [dm]
    · have hp := Bool.eq_false_iff.mpr hp
      rw [hp]
      have e0 : (if false = true then 1 else 0) + cn (fun k => pl (k + 1)) n = cn (fun k => pl (k + 1)) n := by rw [if_neg (by decide), Nat.zero_add]
      rw [e0]
      have e : cn (fun q => Q (rdg pl q)) (6 ^ cn (fun y => pl (y + 1)) n) = plS n (okR (fun y => pl (y + 1))) (fun p => Q (tk 6 p)) := by
        rw [← ih]
        exact cn_cg _ (fun r _ => by rw [rdg_f hp])
      rw [e]
      have ok : ∀ d, okR pl 0 d = decide (d = 6) := fun d => by unfold okR; rw [hp]; rfl
      simp only [sm, ok]
      simp
theorem pop_bb {p : Nat → Bool} {n : Nat} (h : n ≤ 8) : pop (bb p n) = cn p n := by
  unfold pop
  have e := cn_skip (g := fun k => (bb p n).testBit k) (a := n) (8 - n) (fun k h1 _ => Nat.testBit_lt_two_pow (Nat.lt_of_lt_of_le (bb_lt p n) (Nat.pow_le_pow_right (by decide) h1)))
  rw [show n + (8 - n) = 8 by omega] at e
  rw [e]
  exact cn_cg _ (fun k hk => bb_tb _ _ hk)
/-- the PLAN of a code of plain YEARS -/
def plQ (c : Cl) (j : Nat) (s : Int32) (p : Nat → Nat) : Bool := decide (hap (plC c p (cN c)) j = s)
def plY (c : Cl) (y : Nat) : Bool := decide (cW c y = 0)
def odF (c : Cl) (j : Nat) (s : Int32) (q : Nat) : Bool := plQ c j s (rdg (plY c) q)
theorem plQ_ex {c : Cl} {j : Nat} {s : Int32} : exN (cN c) (plQ c j s) := fun p q h => by
  unfold plQ plC
  rw [chP_cg (fun y hy => by rw [h y hy])]
theorem alP_c {w : Int32} {k : Nat} (h : alP true w k = true) : alC w k = true := by
  unfold alP at h
  by_cases hw : w = 0
  · rw [hw] at h ⊢; exact h
  · rw [decide_eq_false hw] at h
    have : k = 6 := of_decide_eq_true h
    rw [this]; rfl
theorem alP_ok {c : Cl} {y k : Nat} (hk : k < 7) : alP true (cW c y) k = okR (plY c) y k := by
  unfold alP okR plY
  by_cases hw : cW c y = 0
  · rw [decide_eq_true hw, hw]
    show alC 0 k = !decide (k = 5)
    rcases (show k = 0 ∨ k = 1 ∨ k = 2 ∨ k = 3 ∨ k = 4 ∨ k = 5 ∨ k = 6 by omega) with rfl | rfl | rfl | rfl | rfl | rfl | rfl <;> rfl
  · rw [decide_eq_false hw]; rfl
theorem gd_O {c : Cl} {y code : Nat} {s : Int32} (hw : wfC c) (hy : y < cN c) (hs : vp_in s 5) : gd c (wanS y s) false true 5 code = (alF (fun y => okR (plY c) y (dgc (cN c) code y)) 0 (cN c) && plQ c y s (dgc (cN c) code)) := by
  have h5 := hw.1
  rw [Bool.eq_iff_iff, gd_iff hw.2.1, Bool.and_eq_true, alF_iff]
  constructor
  · rintro ⟨h1, h2, h3, h4⟩
    have hal : ∀ y, y < cN c → alC (cW c y) (dgc (cN c) code y) = true := fun y hy => alP_c (h1 y hy)
    refine ⟨fun k _ hk => by rw [← alP_ok dgc_7]; exact h1 k (by omega), decide_eq_true ?_⟩
    have := h3 y hy
    unfold wanS at this
    rw [vau_s, hb_S (pl_rng hw (fun _ => dgc_7) hal hy) hs] at this
    exact Decidable.not_not.mp this
  · rintro ⟨h1, h4⟩
    have h4 := of_decide_eq_true h4
    have hal' : ∀ y, y < cN c → alP true (cW c y) (dgc (cN c) code y) = true := fun y hy => by rw [alP_ok dgc_7]; exact h1 y (Nat.zero_le _) (by omega)
    have hal : ∀ y, y < cN c → alC (cW c y) (dgc (cN c) code y) = true := fun y hy => alP_c (hal' y hy)
    refine ⟨hal', Nat.le_trans (cn_le _ _) h5, fun z hz => ?_, fun q => by cases q⟩
    unfold wanS
    by_cases hzy : z = y
    · subst hzy; rw [vau_s, hb_S (pl_rng hw (fun _ => dgc_7) hal hz) hs]; exact fun q => q h4
    · rw [vau_n hzy]; exact hb_63 (pl_rng hw (fun _ => dgc_7) hal hz)
theorem num_O {c : Cl} {y : Nat} {s : Int32} (hw : wfC c) (hy : y < cN c) (hs : vp_in s 5) : num c (wanS y s) false true 5 = cn (odF c y s) (6 ^ cn (plY c) (cN c)) := by
  show _ = cn (fun q => plQ c y s (rdg (plY c) q)) (6 ^ cn (plY c) (cN c))
  rw [plS_r _ _ _ plQ_ex, ← plS_c _ _ _ plQ_ex]
  exact cn_cg _ (fun code _ => gd_O hw hy hs)
