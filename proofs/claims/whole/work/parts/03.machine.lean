/-! THE SMALL MACHINE: logical cells 0, 1, .. (ints, longs, references by number, kinds), and what stands for them on the real heap -/
/-- ints, longs, references (0 none, b + 1 the cell b), kind and size, how many cells -/
abbrev aN : Type := (Nat → Nat → Int32) × (Nat → Nat → Int64) × (Nat → Nat → Nat) × (Nat → Nat × Nat) × Nat
abbrev aX : Type := Nat × (Nat → Int32)
abbrev aL : Type := List (Option Value)
abbrev aO : Type := Option Value → aN → Prop
/-- base, script, LETTERS, PARENTS, the classes' numbers and slots, the classes of int[], Row[], Cloth[] -/
abbrev aG : Type := Nat × Nat × Nat × Nat × va_G × ClassId × ClassId × ClassId
abbrev up2 {α : Type} (f : Nat → Nat → α) (i k : Nat) (v : α) : Nat → Nat → α := fun j => if j = i then va_up (f i) k v else f j
abbrev up1 {α : Type} (f : Nat → α) (i : Nat) (v : α) : Nat → α := fun j => if j = i then v else f j
abbrev vI (N : aN) : Nat → Nat → Int32 := N.1
abbrev vL (N : aN) : Nat → Nat → Int64 := N.2.1
abbrev vR (N : aN) : Nat → Nat → Nat := N.2.2.1
abbrev sH (N : aN) : Nat → Nat × Nat := N.2.2.2.1
abbrev nC (N : aN) : Nat := N.2.2.2.2
abbrev sI (N : aN) (a k : Nat) (x : Int32) : aN := (up2 N.1 a k x, N.2)
abbrev sL (N : aN) (a k : Nat) (x : Int64) : aN := (N.1, up2 N.2.1 a k x, N.2.2)
abbrev sR (N : aN) (a k : Nat) (x : Nat) : aN := (N.1, N.2.1, up2 N.2.2.1 a k x, N.2.2.2)
/-- a whole int array anew -/
abbrev sA (N : aN) (a : Nat) (f : Nat → Int32) : aN := (up1 N.1 a f, N.2)
/-- a new cell -/
abbrev sN (N : aN) (kd len : Nat) : aN := (up1 N.1 (nC N) (fun _ => 0), up1 N.2.1 (nC N) (fun _ => 0), up1 N.2.2.1 (nC N) (fun _ => 0), up1 N.2.2.2.1 (nC N) (kd, len), nC N + 1)
def am_let (j : Nat) : Int32 := ([108, 98, 103, 101, 107, 115] : List Int32).getD j 0
def am_par (j : Nat) : Int32 := ([-9, 0, 0, 0, 1, 3] : List Int32).getD j 0
def gA (G : aG) (i : Nat) : Nat := if i = 1000000 then G.2.1 else if i = 1000001 then G.2.2.1 else if i = 1000002 then G.2.2.2.1 else G.1 + i
abbrev gD (G : aG) : va_G := G.2.2.2.2.1
abbrev gI (G : aG) : ClassId := G.2.2.2.2.2.1
abbrev gR (G : aG) : ClassId := G.2.2.2.2.2.2.1
abbrev gC (G : aG) : ClassId := G.2.2.2.2.2.2.2
def rV (G : aG) : Value → Value
  | .ref i => .ref (gA G i)
  | v => v
def rO (G : aG) (r : Nat) : Option Nat := if r = 0 then none else some (G.1 + (r - 1))
def fV (G : aG) (N : aN) (ci i k : Nat) : Value := if am_ft ci k = 1 then .long (vL N i k) else if am_ft ci k = 2 then va_rf (rO G (vR N i k)) else .int (vI N i k)
def cE (G : aG) (N : aN) (i : Nat) : va_E :=
  if (sH N i).1 = 0 then .inl (gI G, (sH N i).2, .inl (vI N i))
  else if (sH N i).1 = 1 then .inl (gR G, (sH N i).2, .inr (.inr (.inr (.inr (fun j => rO G (vR N i j))))))
  else if (sH N i).1 = 2 then .inl (gC G, (sH N i).2, .inr (.inr (.inr (.inr (fun j => rO G (vR N i j))))))
  else .inr ((sH N i).1 - 10, (List.range (sH N i).2).map (fV G N ((sH N i).1 - 10) i))
def wsL (G : aG) (N : aN) : va_W := (List.range (nC N)).map (fun i => (G.1 + i, cE G N i))
def aW (G : aG) (N : aN) (H : Heap) : Prop := va_P (gD G) am_cl (wsL G N) H ∧ H.size = G.1 + nC N ∧ nC N ≤ 1000
abbrev gB (G : aG) : Nat → Prop := fun q => G.1 ≤ q
abbrev aT (G : aG) : List (ClassId × FieldType) := [(gI G, .int), (gR G, .object am_R2), (gC G, .object am_R0)]
def am_nm : List (String × Nat × MethodName × String) := [("SewnAhead", 20, ⟨"SewnAhead$Cloth", "<init>", "()V"⟩, "SewnAhead"), ("SewnAhead", 34, ⟨"SewnAhead$Plans", "<init>", "()V"⟩, "SewnAhead"), ("SewnAhead$Plans", 11, ⟨"SewnAhead$Cloth", "<init>", "()V"⟩, "SewnAhead"), ("SewnAhead$Reader", 48, ⟨"SewnAhead", "isScene", "(I)Z"⟩, "SewnAhead"), ("SewnAhead$Cloth", 62, ⟨"SewnAhead", "isScene", "(I)Z"⟩, "SewnAhead"), ("SewnAhead$Plans", 93, ⟨"SewnAhead", "happeningBit", "(I)I"⟩, "SewnAhead")]
/-- what holds of the tables and of what was there before, at every method's start -/
def aK (G : aG) (X : aX) (s : State) : Prop :=
  va_K (gD G) am_cl (aT G) s ∧ (∀ q ∈ am_nm, va_Nw (.methodLinkNest q.1 q.2.1 q.2.2.1 q.2.2.2) s) ∧
  (va_Nw (.fieldLinkNest "SewnAhead$Reader" 62 "SewnAhead" "LETTERS" "[C" "SewnAhead") s ∧ va_Nw (.fieldLinkNest "SewnAhead$Cloth" 91 "SewnAhead" "PARENTS" "[I" "SewnAhead") s) ∧
  (va_AO am_R2 s ∧ va_AO am_R0 s) ∧
  (va_Z "SewnAhead" "LETTERS" "[C" (.ref G.2.2.1) (gB G) s s.heap ∧ va_Z "SewnAhead" "PARENTS" "[I" (.ref G.2.2.2.1) (gB G) s s.heap ∧
   va_T .char G.2.2.1 6 (fun j => .int (am_let j)) (gB G) s s.heap ∧ va_T .int G.2.2.2.1 6 (fun j => .int (am_par j)) (gB G) s s.heap) ∧
  va_X G.2.1 X.1 X.2 s s.heap ∧ G.2.1 < G.1 ∧ G.1 ≤ s.heap.size
theorem aK.moved {G : aG} {X : aX} {s U : State} (h : aK G X s) (hvm : s.vm.Alike U.vm) (hM : ∀ a i x h, va_Nw (.methodLinkNest a i x h) s → va_Nw (.methodLinkNest a i x h) U) (hF : ∀ a i b n d h, va_Nw (.fieldLinkNest a i b n d h) s → va_Nw (.fieldLinkNest a i b n d h) U)
    (hH : ∀ q : Nat, q < G.1 → U.heap[q]? = s.heap[q]?) (hz : G.1 ≤ U.heap.size) : aK G X U := by
  obtain ⟨h1, h2, ⟨h3, h4⟩, ⟨h5, h6⟩, ⟨h7, h8, h9, h10⟩, h11, h12, h13⟩ := h
  have hk : ∀ a : Nat, a < s.heap.size → ¬ gB G a → U.heap[a]? = s.heap[a]? := fun a _ h => hH a (Nat.not_le.mp h)
  exact ⟨h1.moved hvm, fun q hq => hM _ _ _ _ (h2 q hq), ⟨hF _ _ _ _ _ _ h3, hF _ _ _ _ _ _ h4⟩, ⟨h5.moved hvm, h6.moved hvm⟩, ⟨(h7.moved hvm).kept hk, (h8.moved hvm).kept hk, (h9.moved hvm).kept hk, (h10.moved hvm).kept hk⟩, (h11.moved hvm).kept (hH _ h12), h12, hz⟩
theorem aK.warm {G : aG} {X : aX} {s U : State} (h : aK G X s) (hW : s.WarmedH U.vm) (hH : ∀ q : Nat, q < G.1 → U.heap[q]? = s.heap[q]?) (hz : G.1 ≤ U.heap.size) : aK G X U :=
  h.moved hW.alike (fun _ _ _ _ z => va_Nw.warmM hW z) (fun _ _ _ _ _ _ z => va_Nw.warmF hW z) hH hz
theorem aK.calling {G : aG} {X : aX} {U : State} (h : aK G X U) (g : JFrame) (mk : MethodId) (a : Array Value) : aK G X (U.calling g mk a) :=
  h.moved (U := U.calling g mk a) (Vm.Alike.refl U.vm) (fun _ _ _ _ z => va_Nw.same rfl rfl z) (fun _ _ _ _ _ _ z => va_Nw.same rfl rfl z) (fun _ _ => rfl) h.2.2.2.2.2.2.2
/-! locals -/
def las (G : aG) : Nat → aL → List (Nat × Value)
  | _, [] => []
  | i, none :: t => las G (i + 1) t
  | i, some v :: t => (i, rV G v) :: las G (i + 1) t
def isLg : Option Value → Bool
  | some (.long _) => true
  | some (.double _) => true
  | _ => false
def lvc : aL → Nat → Value → aL
  | [], _, _ => []
  | _ :: t, 0, v => some v :: t
  | x :: t, 1, v => (if isLg x then none else x) :: lvc t 0 v
  | x :: t, i + 2, v => x :: lvc t (i + 1) v
def lvd : aL → Nat → Value → aL
  | [], _, _ => []
  | [_], 0, v => [some v]
  | _ :: _ :: t, 0, v => some v :: none :: t
  | x :: t, 1, v => (if isLg x then none else x) :: lvd t 0 v
  | x :: t, i + 2, v => x :: lvd t (i + 1) v
/-- the arguments as locals -/
def lva : List Value → aL
  | [] => []
  | .long x :: t => some (.long x) :: none :: lva t
  | v :: t => some v :: lva t
def lve (args : List Value) (n : Nat) : aL := lva args ++ List.replicate (n - (lva args).length) none
abbrev pR : Option Value → List Value → List Value
  | none, st => st
  | some v, st => v :: st
/-! contracts -/
def aC (mid d : Nat) (p : Program) (R : Room) (s : State) (m : MethodId) (args : Array Value) (meth : Method) (c : Code) : Prop :=
  p.tables.exec = Jvm.exec ∧ c.code = am_c mid ∧ c.maxLocals = am_l mid ∧ s.vm.findClass (am_y mid).cls = some m.cls ∧ (∀ w ∈ am_big, w.before args s = true) ∧ ((am_y mid).name = "<init>" → meth.name = "<init>") ∧ d ≤ R.frames ∧ 60 * d ≤ R.locals
def aRt (mid pc : Nat) (r : Option Value) : Prop :=
  (r = none ∧ decode (am_c mid) pc = .ok (.return_, 1) ∧ am_r mid = none) ∨ (∃ x, r = some (.int x) ∧ decode (am_c mid) pc = .ok (.ireturn, 1) ∧ (am_r mid = some .int ∨ (am_r mid = some .boolean ∧ (x = 0 ∨ x = 1)))) ∨ ∃ x, r = some (.long x) ∧ decode (am_c mid) pc = .ok (.lreturn, 1) ∧ am_r mid = some .long
def aRet (mid : Nat) (G : aG) (p : Program) (l : Launch) (e : Env) (R : Room) (s : State) (m : MethodId) (args : Array Value) (below : List Frame) (meth : Method) (c : Code) (mc ms : Nat) (Q : State → Prop) (post : aO) : Prop :=
  ∀ (H : Heap) (locs : List Loc) (cells slots : Nat) (lsr : Array Slot) (pc : Nat) (r : Option Value) (N : aN), post r N → aW G N H → va_S (gB G) s.heap H locs → cells ≤ mc → slots ≤ ms → aRt mid pc r → W p l e R s m args below meth c H locs cells slots Q (F0 m pc lsr ((pR r []).map (rV G)))
/-- the machine, at pc of the method mid with these locals, stack and cells, comes to its end with post; calls may go d deep; it may make bc cells of bs slots -/
def wp (X : aX) (d mid bc bs pc : Nat) (ls : aL) (st : List Value) (N : aN) (post : aO) : Prop :=
  ∀ (G : aG) (p : Program) (l : Launch) (e : Env) (R : Room) (s : State) (m : MethodId) (args : Array Value) (below : List Frame) (meth : Method) (c : Code) (mc ms : Nat) (Q : State → Prop),
    aC mid d p R s m args meth c → aK G X s → mc ≤ R.cells ∧ ms ≤ R.slots → aRet mid G p l e R s m args below meth c mc ms Q post →
    ∀ (H : Heap) (locs : List Loc) (cells slots : Nat) (lsr : Array Slot), aW G N H → va_S (gB G) s.heap H locs → cells + bc ≤ mc → slots + bs ≤ ms → lv_has lsr (am_l mid) (las G 0 ls) → ls.length = am_l mid →
    W p l e R s m args below meth c H locs cells slots Q (F0 m pc lsr (st.map (rV G)))
def aPc (X : aX) (G : aG) (args : List Value) (N : aN) : Array Value → State → Prop := fun v U => v = (args.map (rV G)).toArray ∧ aW G N U.heap ∧ aK G X U
def aQc (G : aG) (post : aO) : Array Value → State → Outcome → State → Prop := fun _ st o t => (∃ (r : Option Value) (N : aN), o = .returned (r.map (rV G)) ∧ post r N ∧ aW G N t.heap) ∧ va_F (gB G) st t
abbrev aRm (d bc bs : Nat) : Room := { frames := d, cells := bc, slots := bs, locals := 60 * d }
def CallOk (X : aX) (d bc bs mid : Nat) (args : List Value) (N : aN) (post : aO) : Prop :=
  ∀ (G : aG) (l : Launch), Met l (am_y mid) (.code (am_y mid) (am_c mid) (am_l mid) (am_r mid) :: am_big) (aRm d bc bs) (aPc X G args N) (aQc G post) bc bs (gB G)
theorem CallOk.mono {X : aX} {d bc bs mid : Nat} {args : List Value} {N : aN} {post post' : aO} (h : CallOk X d bc bs mid args N post) (hp : ∀ r N', post r N' → post' r N') : CallOk X d bc bs mid args N post' := by
  intro G l
  have h1 := h G l
  intro p e ha hc hk s m args' below hf happ hP hT
  obtain ⟨k, o, a1, a2, a3, ⟨⟨r, N', b1, b2, b3⟩, b4⟩, b5⟩ := h1 p e ha hc hk s m args' below hf happ hP hT
  exact ⟨k, o, a1, a2, a3, ⟨⟨r, N', b1, hp r N' b2, b3⟩, b4⟩, b5⟩
theorem wp.mono {X : aX} {d mid bc bs pc : Nat} {ls : aL} {st : List Value} {N : aN} {post post' : aO} (h : wp X d mid bc bs pc ls st N post) (hp : ∀ r N', post r N' → post' r N') : wp X d mid bc bs pc ls st N post' := by
  intro G p l e R s m args below meth c mc ms Q hC hK hR hret
  exact h G p l e R s m args below meth c mc ms Q hC hK hR (fun H locs cells slots lsr pc r N a1 => hret H locs cells slots lsr pc r N (hp r N a1))
