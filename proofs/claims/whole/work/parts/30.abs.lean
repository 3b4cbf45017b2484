/-! THE ABSTRACT STATE, and what each call does to it -/
/-- a CLOTH: YEARS, LAWS, STITCHES; what each YEAR is, its SCENE; KINDS, CAUSES, ENDS; YEARS and SCENES ahead of each STITCH -/
abbrev Cl : Type := Nat × Nat × Nat × (Nat → Int32) × (Nat → Int32) × (Nat → Int32) × (Nat → Int32) × (Nat → Int32) × (Nat → Nat → Int32) × (Nat → Nat → Int32)
abbrev cN (c : Cl) : Nat := c.1
abbrev cL (c : Cl) : Nat := c.2.1
abbrev cT (c : Cl) : Nat := c.2.2.1
abbrev cW (c : Cl) : Nat → Int32 := c.2.2.2.1
abbrev cS (c : Cl) : Nat → Int32 := c.2.2.2.2.1
abbrev cK (c : Cl) : Nat → Int32 := c.2.2.2.2.2.1
abbrev cC (c : Cl) : Nat → Int32 := c.2.2.2.2.2.2.1
abbrev cEn (c : Cl) : Nat → Int32 := c.2.2.2.2.2.2.2.1
abbrev cHW (c : Cl) : Nat → Nat → Int32 := c.2.2.2.2.2.2.2.2.1
abbrev cHS (c : Cl) : Nat → Nat → Int32 := c.2.2.2.2.2.2.2.2.2
/-- rows: sizes, places; texts; the cloth; kept ones; the latest finding, how often each; asked, upper, lower -/
abbrev aA : Type := (Nat → Int32) × (Nat → Nat → Int32) × (Nat → Int32) × (Nat → Nat → Int32) × Cl × (Nat → Option Cl) × Int32 × (Nat → Int32) × Int32 × Int64 × Int64
abbrev aRs (A : aA) : Nat → Int32 := A.1
abbrev aRp (A : aA) : Nat → Nat → Int32 := A.2.1
abbrev aTs (A : aA) : Nat → Int32 := A.2.2.1
abbrev aTp (A : aA) : Nat → Nat → Int32 := A.2.2.2.1
abbrev aCu (A : aA) : Cl := A.2.2.2.2.1
abbrev aKp (A : aA) : Nat → Option Cl := A.2.2.2.2.2.1
abbrev aFd (A : aA) : Int32 := A.2.2.2.2.2.2.1
abbrev aFs (A : aA) : Nat → Int32 := A.2.2.2.2.2.2.2.1
abbrev aAk (A : aA) : Int32 := A.2.2.2.2.2.2.2.2.1
abbrev aUp (A : aA) : Int64 := A.2.2.2.2.2.2.2.2.2.1
abbrev aLo (A : aA) : Int64 := A.2.2.2.2.2.2.2.2.2.2
def tRw (A : aA) (r : Nat) (s : Int32) (p : Nat → Int32) : aA := (va_up A.1 r s, va_up A.2.1 r p, A.2.2)
def tTx (A : aA) (t : Nat) (s : Int32) (p : Nat → Int32) : aA := (A.1, A.2.1, va_up A.2.2.1 t s, va_up A.2.2.2.1 t p, A.2.2.2.2)
def tCu (A : aA) (c : Cl) : aA := (A.1, A.2.1, A.2.2.1, A.2.2.2.1, c, A.2.2.2.2.2)
def tKp (A : aA) (k : Nat → Option Cl) : aA := (A.1, A.2.1, A.2.2.1, A.2.2.2.1, A.2.2.2.2.1, k, A.2.2.2.2.2.2)
def tFd (A : aA) (f : Nat) : aA := (A.1, A.2.1, A.2.2.1, A.2.2.2.1, A.2.2.2.2.1, A.2.2.2.2.2.1, nI f, va_up A.2.2.2.2.2.2.2.1 f (A.2.2.2.2.2.2.2.1 f + 1), A.2.2.2.2.2.2.2.2)
def tAk (A : aA) (v : Int32) : aA := (A.1, A.2.1, A.2.2.1, A.2.2.2.1, A.2.2.2.2.1, A.2.2.2.2.2.1, A.2.2.2.2.2.2.1, A.2.2.2.2.2.2.2.1, v, A.2.2.2.2.2.2.2.2.2)
def tUl (A : aA) (u l : Int64) : aA := (A.1, A.2.1, A.2.2.1, A.2.2.2.1, A.2.2.2.2.1, A.2.2.2.2.2.1, A.2.2.2.2.2.2.1, A.2.2.2.2.2.2.2.1, A.2.2.2.2.2.2.2.2.1, u, l)
/-- what happens, by which LAW -/
def hap (c : Cl) (y : Nat) : Int32 := hapF (cW c) (cS c) (cK c) (cC c) (cEn c) (cL c) y
def mak (c : Cl) (y : Nat) : Int32 := mkF (cW c) (cS c) (cK c) (cC c) (hap c) (cL c) y
def bro (c : Cl) (k : Nat) : Bool := brk (cK c) (cC c) (cEn c) (hap c) (cN c) k
/-- the LAWS that are broken, by bits -/
def brb (c : Cl) : Nat := bb (bro c) (cL c)
def ysW (c : Cl) (s : Int32) : Nat := bb (fun y => decide (hap c y = s)) (cN c)
def ysT (c : Cl) (w : Int32) : Nat := bb (fun y => decide (cW c y = w)) (cN c)
def ysS (c : Cl) : Nat := bb (fun y => !decide (hap c y = -9)) (cN c)
/-- a STITCH -/
def stc (c : Cl) (y : Nat) (ch : Nat) : Cl := (cN c, cL c, cT c + 1, va_up (cW c) y (chW (cW c y) ch), va_up (cS c) y (chS (cS c y) ch), cK c, cC c, cEn c, va_up (cHW c) (cT c) (cW c), va_up (cHS c) (cT c) (cS c))
/-- a YEAR of its own, aside -/
def sty (c : Cl) (y : Nat) (w s : Int32) : Cl := (cN c, cL c, cT c, va_up (cW c) y w, va_up (cS c) y s, cK c, cC c, cEn c, cHW c, cHS c)
def wfY (w s : Int32) : Prop := (w = 0 ∧ s = -9) ∨ ((w = 1 ∨ w = 2) ∧ vp_in s 5)
def wfC (c : Cl) : Prop := cN c ≤ 5 ∧ cL c ≤ 8 ∧ cT c ≤ 40 ∧ (∀ y, y < cN c → wfY (cW c y) (cS c y)) ∧ (∀ k, k < cL c → vp_in (cK c k) 6 ∧ vp_in (cC c k) 5 ∧ vp_in (cEn c k) 5) ∧ ∀ i, i < cT c → ∀ y, y < cN c → wfY (cHW c i y) (cHS c i y)
def inB (x : Int32) (n : Nat) : Bool := decide (0 ≤ x.toInt ∧ x.toInt < n)
theorem inB_t {x : Int32} {n : Nat} (h : vp_in x n) : inB x n = true := by rw [vp_in_iff] at h; exact decide_eq_true h
theorem inB_f {x : Int32} {n : Nat} (h : ¬ vp_in x n) : inB x n = false := by rw [vp_in_iff] at h; exact decide_eq_false h
theorem inB_nI {j n : Nat} (hj : j < n) (hn : n < 2 ^ 31) : inB (nI j) n = true := inB_t (vp_in_nI hj hn)
/-! the class's cells -/
/-- the CLOTH c at the cell b, but for what happens -/
def ClC (c : Cl) (b : Nat) (vi : Nat → Nat → Int32) : Prop :=
  vi b 0 = nI (cN c) ∧ vi b 3 = nI (cL c) ∧ vi b 7 = nI (cT c) ∧ (∀ y, y < cN c → vi (b + 1) y = cW c y ∧ vi (b + 2) y = cS c y) ∧ (∀ k, k < cL c → vi (b + 3) k = cK c k ∧ vi (b + 4) k = cC c k ∧ vi (b + 5) k = cEn c k) ∧
  ∀ i, i < cT c → ∃ z, z < cN c ∧ vi (b + 6) i = nI z ∧ ∀ y, y < cN c → cHW c i y = (if y = z then vi (b + 7) i else if i + 1 < cT c then cHW c (i + 1) y else cW c y) ∧ cHS c i y = (if y = z then vi (b + 8) i else if i + 1 < cT c then cHS c (i + 1) y else cS c y)
def AbC (A : aA) (vi : Nat → Nat → Int32) (vl : Nat → Nat → Int64) : Prop :=
  ((∀ r, r < 6 → vi (42 + 2 * r) 1 = aRs A r ∧ ∀ k, k < 40 → vi (43 + 2 * r) k = aRp A r k) ∧ (∀ t, t < 4 → vi (54 + 2 * t) 1 = aTs A t ∧ ∀ k, k < 60 → vi (55 + 2 * t) k = aTp A t k)) ∧
  (ClC (aCu A) 3 vi ∧ setl vi 3 (cL (aCu A)) (cN (aCu A))) ∧ (∀ k, k < 3 → match aKp A k with | none => vi (62 + 11 * k) 0 = nI 0 | some c => ClC c (62 + 11 * k) vi ∧ 0 < cN c) ∧
  (vi 0 7 = aFd A ∧ ∀ f, f < 6 → vi 41 f = aFs A f) ∧ vi 0 8 = aAk A ∧ vl 0 9 = aUp A ∧ vl 0 10 = aLo A
/-- the reference's cells are 95 to 106 -/
def smM (vi w : Nat → Nat → Int32) (vl wl : Nat → Nat → Int64) : Prop := (∀ j, 95 ≤ j → w j = vi j) ∧ ∀ j, 95 ≤ j → wl j = vl j
def smC (vi w : Nat → Nat → Int32) (vl wl : Nat → Nat → Int64) : Prop := (∀ j, j < 95 → w j = vi j) ∧ ∀ j, j < 95 → wl j = vl j
/-- sizes, and the state as it must be -/
def wfA (A : aA) : Prop := (∀ r, r < 6 → aRs A r = -1 ∨ ∃ n, n ≤ 40 ∧ aRs A r = nI n) ∧ (∀ t, t < 4 → aTs A t = -1 ∨ ∃ n, n ≤ 60 ∧ aTs A t = nI n) ∧ wfC (aCu A) ∧ (∀ k c, k < 3 → aKp A k = some c → wfC c ∧ 0 < cN c) ∧ (cN (aCu A) = 0 → cL (aCu A) = 0 ∧ cT (aCu A) = 0)
