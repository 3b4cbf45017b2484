/-! frames of the class's picture -/
section S31
variable {A : aA} {vi w : Nat → Nat → Int32} {vl wl : Nat → Nat → Int64}
theorem ClC_fr {c : Cl} {b : Nat} (h : ClC c b vi) (hw : ∀ j, b ≤ j → j ≤ b + 8 → w j = vi j) : ClC c b w := by
  obtain ⟨h1, h2, h3, h4, h5, h6⟩ := h
  have e : ∀ j, j ≤ 8 → w (b + j) = vi (b + j) := fun j hj => hw _ (by omega) (by omega)
  refine ⟨by rw [hw b (by omega) (by omega)]; exact h1, by rw [hw b (by omega) (by omega)]; exact h2, by rw [hw b (by omega) (by omega)]; exact h3, fun y hy => ?_, fun k hk => ?_, fun i hi => ?_⟩
  · rw [e 1 (by decide), e 2 (by decide)]; exact h4 y hy
  · rw [e 3 (by decide), e 4 (by decide), e 5 (by decide)]; exact h5 k hk
  · rw [e 6 (by decide), e 7 (by decide), e 8 (by decide)]; exact h6 i hi
theorem setl_fr {b L n : Nat} (hL : L ≤ 8) (h : setl vi b L n) (hw : ∀ j, b ≤ j → j ≤ b + 10 → w j = vi j) : setl w b L n := by
  have e : ∀ j, j ≤ 10 → w (b + j) = vi (b + j) := fun j hj => hw _ (by omega) (by omega)
  refine setl_cg hL h ?_ ?_ ?_ ?_ ?_ ?_ ?_
  · intro y _; rw [e 1 (by decide)]
  · intro y _; rw [e 2 (by decide)]
  · intro y _; rw [e 3 (by decide)]
  · intro y _; rw [e 4 (by decide)]
  · intro y _; rw [e 5 (by decide)]
  · intro y _; rw [e 9 (by decide)]
  · intro y _; rw [e 10 (by decide)]
/-- the groups of the picture -/
def RwC (A : aA) (vi : Nat → Nat → Int32) : Prop := (∀ r, r < 6 → vi (42 + 2 * r) 1 = aRs A r ∧ ∀ k, k < 40 → vi (43 + 2 * r) k = aRp A r k) ∧ (∀ t, t < 4 → vi (54 + 2 * t) 1 = aTs A t ∧ ∀ k, k < 60 → vi (55 + 2 * t) k = aTp A t k)
def CuC (A : aA) (vi : Nat → Nat → Int32) : Prop := ClC (aCu A) 3 vi ∧ setl vi 3 (cL (aCu A)) (cN (aCu A))
def KpC (A : aA) (vi : Nat → Nat → Int32) : Prop := ∀ k, k < 3 → match aKp A k with | none => vi (62 + 11 * k) 0 = nI 0 | some c => ClC c (62 + 11 * k) vi ∧ 0 < cN c
def FdC (A : aA) (vi : Nat → Nat → Int32) : Prop := vi 0 7 = aFd A ∧ ∀ f, f < 6 → vi 41 f = aFs A f
def TlC (A : aA) (vi : Nat → Nat → Int32) (vl : Nat → Nat → Int64) : Prop := vi 0 8 = aAk A ∧ vl 0 9 = aUp A ∧ vl 0 10 = aLo A
theorem AbC_iff : AbC A vi vl ↔ RwC A vi ∧ CuC A vi ∧ KpC A vi ∧ FdC A vi ∧ TlC A vi vl := Iff.rfl
theorem RwC_fr {B : aA} (h : RwC A vi) (hw : ∀ j, 42 ≤ j → j ≤ 61 → w j = vi j) (h1 : aRs B = aRs A) (h2 : aRp B = aRp A) (h3 : aTs B = aTs A) (h4 : aTp B = aTp A) : RwC B w := by
  refine ⟨fun r hr => ?_, fun t ht => ?_⟩
  · rw [hw _ (by omega) (by omega), hw _ (by omega) (by omega), h1, h2]; exact h.1 r hr
  · rw [hw _ (by omega) (by omega), hw _ (by omega) (by omega), h3, h4]; exact h.2 t ht
theorem CuC_fr {B : aA} (hL : cL (aCu A) ≤ 8) (h : CuC A vi) (hw : ∀ j, 3 ≤ j → j ≤ 13 → w j = vi j) (h1 : aCu B = aCu A) : CuC B w := by
  unfold CuC; rw [h1]
  exact ⟨ClC_fr h.1 (fun j a b => hw j a (by omega)), setl_fr hL h.2 (fun j a b => hw j a (by omega))⟩
theorem KpC_fr {B : aA} (h : KpC A vi) (hw : ∀ j, 62 ≤ j → j ≤ 94 → w j = vi j) (h1 : aKp B = aKp A) : KpC B w := by
  intro k hk
  have := h k hk
  rw [h1]
  cases he : aKp A k with
  | none => rw [he] at this; show w _ 0 = _; rw [hw _ (by omega) (by omega)]; exact this
  | some c => rw [he] at this; exact ⟨ClC_fr this.1 (fun j a b => hw j (by omega) (by omega)), this.2⟩
theorem FdC_fr {B : aA} (h : FdC A vi) (h7 : w 0 7 = vi 0 7) (h41 : w 41 = vi 41) (h1 : aFd B = aFd A) (h2 : aFs B = aFs A) : FdC B w := by
  unfold FdC; rw [h7, h41, h1, h2]; exact h
theorem TlC_fr {B : aA} (h : TlC A vi vl) (h8 : w 0 8 = vi 0 8) (h1 : aAk B = aAk A) (h2 : aUp B = aUp A) (h3 : aLo B = aLo A) : TlC B w vl := by
  unfold TlC; rw [h8, h1, h2, h3]; exact h
/-- scratch cells: aside (14 to 24), plans (26 to 40) -/
theorem AbC_scr (hL : cL (aCu A) ≤ 8) (h : AbC A vi vl) (hw : ∀ j, (j < 14 ∨ 40 < j) → w j = vi j) : AbC A w vl := by
  rw [AbC_iff] at h ⊢
  obtain ⟨h1, h2, h3, h4, h5⟩ := h
  exact ⟨RwC_fr h1 (fun j _ _ => hw j (by omega)) rfl rfl rfl rfl, CuC_fr hL h2 (fun j _ _ => hw j (by omega)) rfl, KpC_fr h3 (fun j _ _ => hw j (by omega)) rfl, FdC_fr h4 (by rw [hw 0 (by omega)]) (hw 41 (by omega)) rfl rfl, TlC_fr h5 (by rw [hw 0 (by omega)]) rfl rfl rfl⟩
theorem AbC_fd (hL : cL (aCu A) ≤ 8) (h : AbC A vi vl) {f : Nat} (h1f : 1 ≤ f) (hf : f ≤ 5) : AbC (tFd A f) (rfM vi f) vl := by
  rw [AbC_iff] at h ⊢
  obtain ⟨h1, h2, h3, h4, h5⟩ := h
  have o : ∀ j, j ≠ 0 → j ≠ 41 → rfM vi f j = vi j := fun j a b => by unfold rfM; rw [up2_n a, up2_n b]
  refine ⟨RwC_fr h1 (fun j _ _ => o j (by omega) (by omega)) rfl rfl rfl rfl, CuC_fr hL h2 (fun j _ _ => o j (by omega) (by omega)) rfl, KpC_fr h3 (fun j _ _ => o j (by omega) (by omega)) rfl, ⟨?_, fun g hg => ?_⟩, TlC_fr h5 ?_ rfl rfl rfl⟩
  · unfold rfM; rw [up2_s, vau_s]; rfl
  · unfold rfM
    rw [up2_n (by decide), up2_s]
    show _ = va_up (aFs A) f (aFs A f + 1) g
    by_cases hgf : g = f
    · subst hgf; rw [vau_s, vau_s, h4.2 g hg]
    · rw [vau_n hgf, vau_n hgf, h4.2 g hg]
  · unfold rfM; rw [up2_s, vau_n (by decide), up2_n (by decide)]
theorem AbC_ak (hL : cL (aCu A) ≤ 8) (h : AbC A vi vl) (v : Int32) : AbC (tAk A v) (up2 vi 0 8 v) vl := by
  rw [AbC_iff] at h ⊢
  obtain ⟨h1, h2, h3, h4, h5⟩ := h
  have o : ∀ j, j ≠ 0 → up2 vi 0 8 v j = vi j := fun j a => up2_n a
  refine ⟨RwC_fr h1 (fun j _ _ => o j (by omega)) rfl rfl rfl rfl, CuC_fr hL h2 (fun j _ _ => o j (by omega)) rfl, KpC_fr h3 (fun j _ _ => o j (by omega)) rfl, FdC_fr h4 (by rw [up2_s, vau_n (by decide)]) (o 41 (by decide)) rfl rfl, ⟨?_, h5.2⟩⟩
  rw [up2_s, vau_s]; rfl
theorem AbC_ul (h : AbC A vi vl) {u l : Int64} (hu : wl 0 9 = u) (hl : wl 0 10 = l) : AbC (tUl A u l) vi wl := by
  rw [AbC_iff] at h ⊢
  obtain ⟨h1, h2, h3, h4, h5⟩ := h
  exact ⟨h1, h2, h3, h4, ⟨h5.1, hu, hl⟩⟩
theorem AbC_row (hL : cL (aCu A) ≤ 8) (h : AbC A vi vl) {r : Nat} {s : Int32} {p : Nat → Int32} (hr : r < 6) (hs : w (42 + 2 * r) 1 = s) (hp : ∀ k, k < 40 → w (43 + 2 * r) k = p k) (hw : ∀ j, j ≠ 42 + 2 * r → j ≠ 43 + 2 * r → w j = vi j) : AbC (tRw A r s p) w vl := by
  rw [AbC_iff] at h ⊢
  obtain ⟨h1, h2, h3, h4, h5⟩ := h
  refine ⟨⟨fun q hq => ?_, fun t ht => ?_⟩, CuC_fr hL h2 (fun j _ _ => hw j (by omega) (by omega)) rfl, KpC_fr h3 (fun j _ _ => hw j (by omega) (by omega)) rfl, FdC_fr h4 (by rw [hw 0 (by omega) (by omega)]) (hw 41 (by omega) (by omega)) rfl rfl, TlC_fr h5 (by rw [hw 0 (by omega) (by omega)]) rfl rfl rfl⟩
  · show _ = va_up (aRs A) r s q ∧ ∀ k, k < 40 → _ = va_up (aRp A) r p q k
    by_cases hqr : q = r
    · subst hqr; rw [vau_s, vau_s]; exact ⟨hs, hp⟩
    · rw [vau_n hqr, vau_n hqr, hw _ (by omega) (by omega), hw _ (by omega) (by omega)]; exact h1.1 q hq
  · rw [hw _ (by omega) (by omega), hw _ (by omega) (by omega)]; exact h1.2 t ht
theorem AbC_txt (hL : cL (aCu A) ≤ 8) (h : AbC A vi vl) {r : Nat} {s : Int32} {p : Nat → Int32} (hr : r < 4) (hs : w (54 + 2 * r) 1 = s) (hp : ∀ k, k < 60 → w (55 + 2 * r) k = p k) (hw : ∀ j, j ≠ 54 + 2 * r → j ≠ 55 + 2 * r → w j = vi j) : AbC (tTx A r s p) w vl := by
  rw [AbC_iff] at h ⊢
  obtain ⟨h1, h2, h3, h4, h5⟩ := h
  refine ⟨⟨fun q hq => ?_, fun t ht => ?_⟩, CuC_fr hL h2 (fun j _ _ => hw j (by omega) (by omega)) rfl, KpC_fr h3 (fun j _ _ => hw j (by omega) (by omega)) rfl, FdC_fr h4 (by rw [hw 0 (by omega) (by omega)]) (hw 41 (by omega) (by omega)) rfl rfl, TlC_fr h5 (by rw [hw 0 (by omega) (by omega)]) rfl rfl rfl⟩
  · rw [hw _ (by omega) (by omega), hw _ (by omega) (by omega)]; exact h1.1 q hq
  · show _ = va_up (aTs A) r s t ∧ ∀ k, k < 60 → _ = va_up (aTp A) r p t k
    by_cases hqr : t = r
    · subst hqr; rw [vau_s, vau_s]; exact ⟨hs, hp⟩
    · rw [vau_n hqr, vau_n hqr, hw _ (by omega) (by omega), hw _ (by omega) (by omega)]; exact h1.2 t ht
theorem AbC_cu (h : AbC A vi vl) {c : Cl} (hc : ClC c 3 w) (hse : setl w 3 (cL c) (cN c)) (hw : ∀ j, (j < 3 ∨ 40 < j) → w j = vi j) : AbC (tCu A c) w vl := by
  rw [AbC_iff] at h ⊢
  obtain ⟨h1, h2, h3, h4, h5⟩ := h
  exact ⟨RwC_fr h1 (fun j _ _ => hw j (by omega)) rfl rfl rfl rfl, ⟨hc, hse⟩, KpC_fr h3 (fun j _ _ => hw j (by omega)) rfl, FdC_fr h4 (by rw [hw 0 (by omega)]) (hw 41 (by omega)) rfl rfl, TlC_fr h5 (by rw [hw 0 (by omega)]) rfl rfl rfl⟩
theorem smM_rf : smM vi vi vl vl := ⟨fun _ _ => rfl, fun _ _ => rfl⟩
theorem smM_o {k x : Nat} {v : Int32} (hk : k < 95) : smM vi (up2 vi k x v) vl vl := ⟨fun j hj => up2_n (by omega), fun _ _ => rfl⟩
theorem smM_of (h : ∀ j, 95 ≤ j → w j = vi j) : smM vi w vl vl := ⟨h, fun _ _ => rfl⟩
theorem smM_rfM {f : Nat} : smM vi (rfM vi f) vl vl := ⟨fun j hj => by unfold rfM; rw [up2_n (by omega), up2_n (by omega)], fun _ _ => rfl⟩
/-- what a call of the class's comes to -/
def PC (vi : Nat → Nat → Int32) (vl : Nat → Nat → Int64) (post : aO) (o : Int32 × aA) : Prop := ∀ w wl, AbC o.2 w wl → smM vi w vl wl → post (some (.int o.1)) (mk w wl)
end S31
/-! what the calls do -/
def oRow (A : aA) (r n : Int32) : Int32 × aA := if inB r 6 = true ∧ n ≤ 40 then (if n < 0 then (-3, tFd A 5) else (n, tRw A (r.toNatClampNeg) n (fun _ => 0))) else (-1, A)
def oAt (A : aA) (r i : Int32) : Int32 × aA := if inB r 6 then (if aRs A (r.toNatClampNeg) = -1 then (-3, tFd A 1) else if i < 0 ∨ aRs A (r.toNatClampNeg) ≤ i then (-3, tFd A 2) else (1, tAk A (aRp A (r.toNatClampNeg) (i.toNatClampNeg)))) else (-1, A)
def oLay (A : aA) (r i v : Int32) : Int32 × aA := if inB r 6 then (if aRs A (r.toNatClampNeg) = -1 then (-3, tFd A 1) else if i < 0 ∨ aRs A (r.toNatClampNeg) ≤ i then (-3, tFd A 2) else (1, tRw (tAk A (aRp A (r.toNatClampNeg) (i.toNatClampNeg))) (r.toNatClampNeg) (aRs A (r.toNatClampNeg)) (va_up (aRp A (r.toNatClampNeg)) (i.toNatClampNeg) v))) else (-1, A)
def oTear (A : aA) (r : Int32) : Int32 × aA := if inB r 6 then (if aRs A (r.toNatClampNeg) = -1 then (-3, tFd A 1) else (1, tRw A (r.toNatClampNeg) (-1) (aRp A (r.toNatClampNeg)))) else (-1, A)
def spB (i n size : Int32) : Bool := decide (0 ≤ i.toInt ∧ i.toInt + n.toInt ≤ size.toInt)
def oCopy (A : aA) (r i to j n : Int32) : Int32 × aA := if inB r 6 = true ∧ inB to 6 = true then (if n < 0 then (-3, tFd A 5) else if aRs A (r.toNatClampNeg) = -1 ∨ aRs A (to.toNatClampNeg) = -1 then (-3, tFd A 1) else if spB i n (aRs A (r.toNatClampNeg)) = true ∧ spB j n (aRs A (to.toNatClampNeg)) = true then (1, tRw A (to.toNatClampNeg) (aRs A (to.toNatClampNeg)) (va_cpy (aRp A (r.toNatClampNeg)) (aRp A (to.toNatClampNeg)) (i.toNatClampNeg) (j.toNatClampNeg) (n.toNatClampNeg))) else (-3, tFd A 2)) else (-1, A)
def smF (f : Nat → Int32) : Nat → Int64
  | 0 => 0
  | n + 1 => smF f n + (f n).toInt64
def oMean (A : aA) (r : Int32) : Int32 × aA := if inB r 6 then (if aRs A (r.toNatClampNeg) = -1 then (-3, tFd A 1) else if aRs A (r.toNatClampNeg) = 0 then (-3, tFd A 4) else (1, tAk A (smF (aRp A (r.toNatClampNeg)) ((aRs A (r.toNatClampNeg)).toNatClampNeg) / (aRs A (r.toNatClampNeg)).toInt64).toInt32)) else (-1, A)
def oText (A : aA) (t n : Int32) : Int32 × aA := if inB t 4 = true ∧ n ≤ 60 then (if n < 0 then (-3, tFd A 5) else (n, tTx A (t.toNatClampNeg) n (fun _ => 32))) else (-1, A)
def oPut (A : aA) (t i v : Int32) : Int32 × aA := if inB t 4 then (if aTs A (t.toNatClampNeg) = -1 then (-3, tFd A 1) else if i < 0 ∨ aTs A (t.toNatClampNeg) ≤ i then (-3, tFd A 2) else (aTp A (t.toNatClampNeg) (i.toNatClampNeg) + 1000, tTx A (t.toNatClampNeg) (aTs A (t.toNatClampNeg)) (va_up (aTp A (t.toNatClampNeg)) (i.toNatClampNeg) v.toInt8.toInt32))) else (-1, A)
def oFault (A : aA) (t : Int32) : Int32 × aA := if inB t 4 then (if aTs A (t.toNatClampNeg) = -1 then (-3, tFd A 1) else (prF (aTp A (t.toNatClampNeg)) ((aTs A (t.toNatClampNeg)).toNatClampNeg), A)) else (-1, A)
/-- the CLOTH by a TEXT -/
def clT (f : Nat → Int32) (n : Nat) : Cl := (ytF f n, (lwF f n).2, 0, fun y => if yv f (y0F f n + y) = -9 then 0 else 1, fun y => yv f (y0F f n + y), fun k => kdF (f (lp f n (y0F f n + ytF f n) k)), fun k => f (lp f n (y0F f n + ytF f n) k + 1) - 48, fun k => f (lp f n (y0F f n + ytF f n) k + 2) - 48, fun _ _ => 0, fun _ _ => 0)
def oCloth (A : aA) (t : Int32) : Int32 × aA := if inB t 4 then (if aTs A (t.toNatClampNeg) = -1 then (-3, tFd A 1) else if prF (aTp A (t.toNatClampNeg)) ((aTs A (t.toNatClampNeg)).toNatClampNeg) = -9 then (nI (ytF (aTp A (t.toNatClampNeg)) ((aTs A (t.toNatClampNeg)).toNatClampNeg)), tKp (tCu A (clT (aTp A (t.toNatClampNeg)) ((aTs A (t.toNatClampNeg)).toNatClampNeg))) (fun _ => none)) else (-4, A)) else (-1, A)
def yrT (c : Cl) (y : Nat) (what : Int32) : Int32 := if what = 0 then cW c y else if what = 1 then cS c y else hap c y
def oYear (A : aA) (y what : Int32) : Int32 × aA := if inB y (cN (aCu A)) = true ∧ inB what 3 = true then (1, tAk A (yrT (aCu A) (y.toNatClampNeg) what)) else (-1, A)
def lwT (c : Cl) (k : Nat) (what : Int32) : Int32 := if what = 0 then cK c k else if what = 1 then cC c k else if what = 2 then cEn c k else bI (bro c k)
def oLaw (A : aA) (k what : Int32) : Int32 × aA := if inB k (cL (aCu A)) = true ∧ inB what 4 = true then (1, tAk A (lwT (aCu A) (k.toNatClampNeg) what)) else (-1, A)
def mkT (c : Cl) (k : Nat) (kind : Int32) : Int32 :=
  if kind = 1 then nI (pop (ysW c (cC c k) ||| ysW c (cEn c k))) else if kind = 2 then nI (pop (ysW c (cEn c k) &&& ysT c 2)) else if kind = 3 then nI (pop (ysW c (cC c k))) else if kind = 4 then bI (decide (ysW c (cC c k) = 0) != decide (ysW c (cEn c k) = 0)) else nI (pop (ysW c (cEn c k) &&& ysT c 0))
def oMark (A : aA) (k kind : Int32) : Int32 × aA := if inB k (cL (aCu A)) = true ∧ (0 < kind ∧ kind < 6) then (if isK (cK (aCu A)) (k.toNatClampNeg) kind then (mkT (aCu A) (k.toNatClampNeg) kind, A) else (-3, tFd A 3)) else (-1, A)
def enC (c : Cl) (k : Nat) (s : Int32) : Cl := (cN c, cL c, cT c, cW c, cS c, cK c, cC c, va_up (cEn c) k s, cHW c, cHS c)
def oEnd (A : aA) (k s : Int32) : Int32 × aA := if inB k (cL (aCu A)) = true ∧ inB s 5 = true then (if 0 < cT (aCu A) then (-4, A) else (cEn (aCu A) (k.toNatClampNeg), tCu A (enC (aCu A) (k.toNatClampNeg) s))) else (-1, A)
def oStc (A : aA) (y : Nat) (ch : Nat) : Int32 × aA := if cT (aCu A) < 40 then (nI (pop (brb (stc (aCu A) y ch))), tCu A (stc (aCu A) y ch)) else (-2, A)
def oSew (A : aA) (y s : Int32) : Int32 × aA := if inB y (cN (aCu A)) = true ∧ inB s 5 = true then (if cW (aCu A) (y.toNatClampNeg) = 1 then (-4, A) else oStc A (y.toNatClampNeg) (s.toNatClampNeg)) else (-1, A)
def oUnpick (A : aA) (y : Int32) : Int32 × aA := if inB y (cN (aCu A)) then (if cW (aCu A) (y.toNatClampNeg) = 1 then oStc A (y.toNatClampNeg) 5 else (-4, A)) else (-1, A)
def unC (c : Cl) (m : Nat) : Cl := (cN c, cL c, m, cHW c m, cHS c m, cK c, cC c, cEn c, cHW c, cHS c)
def oUndo (A : aA) (m : Int32) : Int32 × aA := if inB m (cT (aCu A) + 1) then (nI (cT (aCu A) - m.toNatClampNeg), if m.toNatClampNeg < cT (aCu A) then tCu A (unC (aCu A) (m.toNatClampNeg)) else A) else (-1, A)
def oKeep (A : aA) (k : Int32) : Int32 × aA := if inB k 3 then (if cN (aCu A) = 0 then (-4, A) else (nI (cT (aCu A)), tKp A (va_up (aKp A) (k.toNatClampNeg) (some (aCu A))))) else (-1, A)
def oOn (A : aA) (k : Int32) : Int32 × aA := if inB k 3 then (match aKp A (k.toNatClampNeg) with | none => (-3, tFd A 1) | some c => (nI (cT c), tCu A c)) else (-1, A)
def oHappens (A : aA) (s : Int32) : Int32 × aA := if inB s 5 then (nI (pop (ysW (aCu A) s)), tAk A (nI (ysW (aCu A) s))) else (-1, A)
def oBy (A : aA) (y : Int32) : Int32 × aA := if inB y (cN (aCu A)) then (mak (aCu A) (y.toNatClampNeg), A) else (-1, A)
def fyC (c : Cl) : Nat := fyA (cC c) (cEn c) (hap c) (cN c) (brb c) (cL c)
def oBroken (A : aA) : Int32 × aA := (nI (brb (aCu A)), tAk A (if fyC (aCu A) = 0 then -9 else nI (tzN (fyC (aCu A)))))
