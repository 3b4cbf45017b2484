/-! the start -/
theorem st_LETTERS {s : State} {args : Array Value} (hg : (Jvm.Cond.and given_1 narrow_1).before args s = true) (hl : (Cond.laysStatic "SewnAhead" "LETTERS" "[C").before args s = true) (hi : (Cond.initialized "SewnAhead").before args s = true) : ∃ t : Nat, va_Z "SewnAhead" "LETTERS" "[C" (.ref t) (fun q => s.heap.size ≤ q) s s.heap ∧ va_T .char t 6 (fun j => .int (am_let j)) (fun q => s.heap.size ≤ q) s s.heap := by
  have hv := flat_of_before _ hg
  have hel : ∀ j : Nat, j < 6 → (Term.elem (.static "SewnAhead" "LETTERS" "[C") (.int (Int32.ofNat j))).eval args s none [] s = some (.int (am_let j)) := fun j hj => by
    rcases (show j = 0 ∨ j = 1 ∨ j = 2 ∨ j = 3 ∨ j = 4 ∨ j = 5 by omega) with rfl | rfl | rfl | rfl | rfl | rfl
    · exact va_eqt (hv (Cond.eq (.elem (.static "SewnAhead" "LETTERS" "[C") (.int 0)) (.int (108))) (by decide +kernel))
    · exact va_eqt (hv (Cond.eq (.elem (.static "SewnAhead" "LETTERS" "[C") (.int 1)) (.int (98))) (by decide +kernel))
    · exact va_eqt (hv (Cond.eq (.elem (.static "SewnAhead" "LETTERS" "[C") (.int 2)) (.int (103))) (by decide +kernel))
    · exact va_eqt (hv (Cond.eq (.elem (.static "SewnAhead" "LETTERS" "[C") (.int 3)) (.int (101))) (by decide +kernel))
    · exact va_eqt (hv (Cond.eq (.elem (.static "SewnAhead" "LETTERS" "[C") (.int 4)) (.int (107))) (by decide +kernel))
    · exact va_eqt (hv (Cond.eq (.elem (.static "SewnAhead" "LETTERS" "[C") (.int 5)) (.int (115))) (by decide +kernel))
  obtain ⟨t, h1, h2⟩ := va_Tof (tm := (.static "SewnAhead" "LETTERS" "[C")) (ty := .char) (N := 6) (f := fun j => .int (am_let j)) (A := fun q => s.heap.size ≤ q) (by decide) (hv (Cond.arrayOf (.static "SewnAhead" "LETTERS" "[C") .char) (by decide +kernel)) (va_eqt (hv (Cond.eq (.length (.static "SewnAhead" "LETTERS" "[C")) (.int 6)) (by decide +kernel))) hel (fun a ha => Nat.not_le.mpr ha)
  exact ⟨t, va_Zof hl hi h1 (fun a ha => Nat.not_le.mpr ha), h2⟩
theorem st_PARENTS {s : State} {args : Array Value} (hg : (Jvm.Cond.and given_1 narrow_1).before args s = true) (hl : (Cond.laysStatic "SewnAhead" "PARENTS" "[I").before args s = true) (hi : (Cond.initialized "SewnAhead").before args s = true) : ∃ t : Nat, va_Z "SewnAhead" "PARENTS" "[I" (.ref t) (fun q => s.heap.size ≤ q) s s.heap ∧ va_T .int t 6 (fun j => .int (am_par j)) (fun q => s.heap.size ≤ q) s s.heap := by
  have hv := flat_of_before _ hg
  have hel : ∀ j : Nat, j < 6 → (Term.elem (.static "SewnAhead" "PARENTS" "[I") (.int (Int32.ofNat j))).eval args s none [] s = some (.int (am_par j)) := fun j hj => by
    rcases (show j = 0 ∨ j = 1 ∨ j = 2 ∨ j = 3 ∨ j = 4 ∨ j = 5 by omega) with rfl | rfl | rfl | rfl | rfl | rfl
    · exact va_eqt (hv (Cond.eq (.elem (.static "SewnAhead" "PARENTS" "[I") (.int 0)) (.int (-9))) (by decide +kernel))
    · exact va_eqt (hv (Cond.eq (.elem (.static "SewnAhead" "PARENTS" "[I") (.int 1)) (.int (0))) (by decide +kernel))
    · exact va_eqt (hv (Cond.eq (.elem (.static "SewnAhead" "PARENTS" "[I") (.int 2)) (.int (0))) (by decide +kernel))
    · exact va_eqt (hv (Cond.eq (.elem (.static "SewnAhead" "PARENTS" "[I") (.int 3)) (.int (0))) (by decide +kernel))
    · exact va_eqt (hv (Cond.eq (.elem (.static "SewnAhead" "PARENTS" "[I") (.int 4)) (.int (1))) (by decide +kernel))
    · exact va_eqt (hv (Cond.eq (.elem (.static "SewnAhead" "PARENTS" "[I") (.int 5)) (.int (3))) (by decide +kernel))
  obtain ⟨t, h1, h2⟩ := va_Tof (tm := (.static "SewnAhead" "PARENTS" "[I")) (ty := .int) (N := 6) (f := fun j => .int (am_par j)) (A := fun q => s.heap.size ≤ q) (by decide) (hv (Cond.arrayOf (.static "SewnAhead" "PARENTS" "[I") .int) (by decide +kernel)) (va_eqt (hv (Cond.eq (.length (.static "SewnAhead" "PARENTS" "[I")) (.int 6)) (by decide +kernel))) hel (fun a ha => Nat.not_le.mpr ha)
  exact ⟨t, va_Zof hl hi h1 (fun a ha => Nat.not_le.mpr ha), h2⟩
theorem st_arr {s : State} {args : Array Value} (h : (Cond.arrayClass .int).before args s = true) : ∃ cA : ClassId, ArrOfT s cA .int ∧ va_RA s cA .int := by
  obtain ⟨c, k, comp, h1, h2, h3⟩ := Cond.arrayClass_spec h
  exact ⟨c, fun n z => ⟨(fun k h => by cases h), k, h2, comp, h3⟩, h1⟩
theorem st_ao {s : State} {C : String} (h : va_AO C s) : ∃ cA : ClassId, ArrOfT s cA (.object C) ∧ va_RA s cA (.object C) := by
  obtain ⟨comp, c, k, h1, h2, h3, h4, h5⟩ := Cond.arrayOver_spec h
  exact ⟨c, fun n z => ⟨(fun k h => by cases h), k, h3, comp, h4⟩, k, comp, h3, h4, h1, h5⟩
theorem whole_start {p : Program} {e : Env} {s : State} {m : MethodId} {below : List Frame} {meth : Method} {c : Code} (l : Launch) {b L : Nat} {xs : Nat → Int32} (hL : L ≤ 384) (C0 : lw_At p s m meth c b L xs) : W p l e room_1 s m #[Value.ref b] below meth c s.heap [] 0 0 (lw_Z below #[Value.ref b] s) (entryFrame m ([Value.ref b] : List Value).toArray 4) := by
  obtain ⟨hx, hb, hr, hml, hown, hts, hX, hbl, hlocks, hgv⟩ := id C0
  have htb : ∀ (q : Nat) (w : Cond), tables_1[q]? = some w → w.before #[Value.ref b] s = true := fun q w h => hts w (List.mem_append_right _ (List.mem_of_getElem? h))
  have hbg : ∀ w ∈ am_big, w.before #[Value.ref b] s = true := fun w hw => hts w (List.mem_filter.mp hw).1
  have hini : (Cond.initialized "SewnAhead").before #[Value.ref b] s = true := hbg _ in_S
  obtain ⟨tL, zL1, tL1⟩ := st_LETTERS hgv (htb 285 _ (by decide +kernel)) hini
  obtain ⟨tP, zP1, tP1⟩ := st_PARENTS hgv (htb 357 _ (by decide +kernel)) hini
  obtain ⟨cI, aI⟩ := st_arr (hbg _ ac_int)
  have oR : va_AO am_R2 s := va_AO.of (htb 20 _ (by decide +kernel))
  have oC : va_AO am_R0 s := va_AO.of (htb 83 _ (by decide +kernel))
  obtain ⟨cR, aR⟩ := st_ao oR
  obtain ⟨cC, aCC⟩ := st_ao oC
  obtain ⟨c0, i0, k0⟩ := u_known (C := am_R0) (T := am_T0) (N := 13) (n := 13) hbg am_w0 (hbg _ ln_0)
  obtain ⟨c1, i1, k1⟩ := u_known (C := am_R1) (T := am_T1) (N := 8) (n := 8) hbg am_w1 (hbg _ ln_1)
  obtain ⟨c2, i2, k2⟩ := u_known (C := am_R2) (T := am_T2) (N := 2) (n := 2) hbg am_w2 (hbg _ ln_2)
  obtain ⟨c3, i3, k3⟩ := u_known (C := am_R3) (T := am_T3) (N := 11) (n := 11) hbg am_w3 (hbg _ ln_3)
  obtain ⟨c4, i4, k4⟩ := u_known (C := am_R4) (T := am_T4) (N := 20) (n := 20) hbg am_w4 (hbg _ ln_4)
  obtain ⟨dC, dI, hKc⟩ : ∃ (dC : Nat → ClassId) (dI : Nat → Nat → Nat), ∀ (k : Nat) (q : vw_C), am_cl[k]? = some q → u_Kn s q.1 q.2.1 q.2.2 (dC k) (dI k) := by
    refine ⟨fun k => if k = 0 then c0 else if k = 1 then c1 else if k = 2 then c2 else if k = 3 then c3 else c4, fun k => if k = 0 then i0 else if k = 1 then i1 else if k = 2 then i2 else if k = 3 then i3 else i4, ?_⟩
    intro k q hq
    match k, hq with
    | 0, hq => cases hq; exact k0
    | 1, hq => cases hq; exact k1
    | 2, hq => cases hq; exact k2
    | 3, hq => cases hq; exact k3
    | 4, hq => cases hq; exact k4
    | k + 5, hq => simp [am_cl] at hq
  have hK : aK (s.heap.size, b, tL, tP, (dC, dI), cI, cR, cC) (L, xs) s := by
    refine ⟨⟨hKc, fun k q hq => ?_⟩, fun q hq => ?_, ⟨?_, ?_⟩, ⟨oR, oC⟩, ⟨zL1, zP1, tL1, tP1⟩, hX, hbl, Nat.le_refl _⟩
    · match k, hq with
      | 0, hq => cases hq; exact aI
      | 1, hq => cases hq; exact aR
      | 2, hq => cases hq; exact aCC
      | k + 3, hq => simp [aT] at hq
    · obtain ⟨k, hk⟩ := List.getElem?_of_mem hq
      match k, hk with
      | 0, hk => cases hk; exact va_Nw.of rfl (htb 23 _ (by decide +kernel))
      | 1, hk => cases hk; exact va_Nw.of rfl (htb 86 _ (by decide +kernel))
      | 2, hk => cases hk; exact va_Nw.of rfl (htb 91 _ (by decide +kernel))
      | 3, hk => cases hk; exact va_Nw.of rfl (htb 267 _ (by decide +kernel))
      | 4, hk => cases hk; exact va_Nw.of rfl (htb 395 _ (by decide +kernel))
      | 5, hk => cases hk; exact va_Nw.of rfl (htb 509 _ (by decide +kernel))
      | k + 6, hk => simp [am_nm] at hk
    · exact va_Nw.of rfl (htb 284 _ (by decide +kernel))
    · exact va_Nw.of rfl (htb 356 _ (by decide +kernel))
  have hl := lv_entry ([.ref b]) (n := 4) (Nat.le_of_ble_eq_true rfl)
  rw [lg_entry_eq]
  generalize (lg_sl ([.ref b]) ++ List.replicate (4 - (lg_sl ([.ref b])).length) Slot.unset).toArray = lsr at hl ⊢
  have hl : lv_has lsr 4 [(0, .ref b)] := hl
  refine law_start (X := (L, xs)) (d := 0) hL (s.heap.size, b, tL, tP, (dC, dI), cI, cR, cC) p l e room_1 s m #[Value.ref b] below meth c 600000 7302250 _ ⟨hx, hb, hml, hown, hbg, (fun h => absurd h (by decide)), by decide, by decide⟩ hK ⟨by decide, by decide⟩ ?_ s.heap [] 0 0 lsr ⟨fun k q h => (by have h : ([] : va_W)[k]? = some q := h; simp at h), rfl, by decide⟩ va_S.rf (by decide) (by decide) hl rfl
  intro H locs cells slots ls2 pc r N' hp hW' hS' hc1 hc2 hr2
  refine va_forget (fun q hq => hS'.2.2 q hq) ?_
  refine W.widen hc1 hc2 ?_
  have hp : r = some (.int 1) := hp
  subst hp
  rcases hr2 with ⟨h, -⟩ | ⟨x, h, hd, -⟩ | ⟨x, h, -⟩
  · cases h
  · cases h; exact lw_ret hx hb hr hlocks hd
  · cases h
set_option maxHeartbeats 4000000 in
theorem lw_walk (l : Launch) (b : Addr) (xs : List Int32) : MetFree l x (headSpec (Jvm.Cond.code x code maxLocals ret :: tables_1) room_1) (lw_P b xs) (fun _ _ _ _ _ => True) lw_Q := by
  refine MetFree.of_bodyS (code := code) (maxLocals := maxLocals) (ret := ret) (by decide) ?_ ?_
  · intro args s m h hn
    obtain ⟨meth, c, h1, h2, h3, h4, h5, h6, -, -⟩ := Cond.code_spec hn (atoms_spec (ws := Jvm.Cond.code x code maxLocals ret :: tables_1) h _ List.mem_cons_self)
    exact ⟨meth, c, h1, h2, h3, h4, h5, h6⟩
  · intro p e s m args below meth c s₁ B hml0 hP _
    obtain ⟨rfl, hx, hbd, hgv⟩ := hP
    obtain ⟨scr, harrAt, hlist, hof, hsmall⟩ := hx
    obtain ⟨hcb, hkn, -, -⟩ := State.arrayAt?_spec harrAt
    have hown : s.vm.findClass R_law = some m.cls := findClass_of_methodNamed B.named
    have hts0 : ∀ c ∈ (Jvm.Cond.code x code maxLocals ret :: tables_1), c.before #[Value.ref b] s = true := atoms_spec (ws := Jvm.Cond.code x code maxLocals ret :: tables_1) B.pre
    have hts : ∀ w ∈ lw_tbl, w.before #[Value.ref b] s = true := k2_hts_sels lw_privs (fun w hw => hts0 w (List.mem_cons_of_mem _ hw)) lw_privs_ok
    have hml : c.maxLocals = 4 := B.maxLocals_eq (hts0 _ List.mem_cons_self)
    have X₀ : Stand p l e room_1 s m #[Value.ref b] below meth c s₁ [] 0 0 := Stand.of_body B
    have hh0 : s₁.heap = s.heap := by rw [B.state]; rfl
    have hsz : scr.slots.size = xs.length := by rw [← Array.length_toList, hlist, List.length_map]
    have hval : ∀ j : Nat, j < xs.length → scr.slots[j]? = some (.int (xs.getD j 0)) := fun j hj => by
      rw [← Array.getElem?_toList, hlist]
      simp [hj]
    have hbl : b < s.heap.size := (Array.getElem?_eq_some_iff.mp hcb).1
    have hX : va_X b xs.length (fun j => xs.getD j 0) s s.heap := ⟨scr, hcb, hof, hkn, hsz, hval⟩
    have K : W p l e room_1 s m #[Value.ref b] below meth c s₁.heap [] 0 0 (lw_Z below #[Value.ref b] s) (entryFrame m ([Value.ref b] : List Value).toArray 4) := by
      rw [hh0]
      exact whole_start l hbd ⟨B.exec, B.bytes, B.returns, hml, hown, hts, hX, hbl, B.notSynchronized, hgv⟩
    obtain ⟨t, a1, o, b1, b2, b3⟩ := K s₁ rfl X₀
    exact ⟨t, o, a1, b1, b2, b3⟩
theorem lw_pre_spec {args : Array Value} {s : State} (h : (Jvm.Cond.and given_1 narrow_1).before args s = true) (hr : rest_1_c.before args s = true) : ∃ (b : Addr) (xs : List Int32), lw_P b xs args s := by
  have hs := flat_of_before _ h
  have hq := flat_of_before _ hr
  have hc : (Cond.count 1).before args s = true := hs _ (by decide +kernel)
  have harr : (Cond.arrayOf (.arg 0) .int).before args s = true := hs _ (by decide +kernel)
  have hle : (Cond.le (.length (.arg 0)) (.int 384)).before args s = true := hs _ (by decide +kernel)
  have hlen : (Cond.isInt (.length (.arg 0))).before args s = true := hq _ (by decide +kernel)
  have hall : (Cond.all (.arg 0) (.isInt (.elem (.arg 0) (.index 0)))).before args s = true := hq _ (by decide +kernel)
  obtain ⟨b, xs, hb, hx⟩ := State.ints_of_pre rfl harr hlen hall
  have hsm : xs.length < 2 ^ 31 := hx.choose_spec.2.2.2
  have hev : (Term.length (.arg 0)).eval args s none [] s = some (.int xs.length.toInt32) := hx.length_eval hb
  have hv := Cond.le_ints hev (show (Term.int 384).eval args s none [] s = some (.int 384) from rfl)
  have hd : xs.length.toInt32 ≤ 384 := by
    simpa [Cond.before, Cond.holds, hv] using hle
  have hN : xs.length ≤ 384 := (Int32.ofNat_le_ofNat hsm (by decide)).mp (show Int32.ofNat xs.length ≤ Int32.ofNat 384 from hd)
  exact ⟨b, xs, Cond.one_arg hc (show args[0]? = some (.ref b) from hb), hx, hN, h⟩
theorem lw_comes (l : Launch) : Comes l x (Jvm.Cond.code x code maxLocals ret :: tables_1) room_1 (fun tb e args s => Calls_1 tb e args s ∧ rest_1 tb e args s ∧ Pre_1 tb e args s)
    (fun _ _ args s o t => lw_Q args s o t) := by
  intro p e ha hc hk s m args below hf hfit hheap happ hpre
  obtain ⟨b, xs, hP⟩ := lw_pre_spec hpre.2.2 hpre.2.1
  obtain ⟨k, o, h1, h2, h3, hQ⟩ := lw_walk l b xs p e ha hc hk s m args below hf ((Spec.applies_iff_loose hf).mp happ).1 hP trivial
  exact ⟨k, o, h1, h2, h3, hQ⟩
theorem lw_frame {s t : State} {o : Outcome} {args : Array Value} (h : Framed s o t [] 600000 7302250) :
    Framed s o t (fieldLocs frame_1_writes args s ++ arrayLocs frame_1_arrays args s ++ staticLocs frame_1_statics s) 600000 7302250 := h
theorem lw_limb (L : Cond) (hL : ∀ (args : Array Value) (s t : State), L.after args s (.returned (some (.int 1))) t = true) :
    ArmFor flags0 classFile x code maxLocals ret World_1 tables_1 room_1 Calls_1 rest_1 Pre_1
      (fun tb e a s o t => postC L tb e a s o t ∧ Framed s o t (fieldLocs frame_1_writes a s ++ arrayLocs frame_1_arrays a s ++ staticLocs frame_1_statics s) 600000 7302250) := by
  intro l _ _ _ p e ha hc hk s m args below hf hfit hheap happ hpre
  obtain ⟨k, o, h1, h2, h3, rfl, hF⟩ := lw_comes l p e ha hc hk s m args below hf hfit hheap happ hpre
  exact ⟨k, _, h1, h2, h3, hL args s _, lw_frame hF⟩
theorem i_vc : Claimed_1_1 ∧ Claimed_1_2 := ⟨lw_limb limb_1_1 (fun args s t => by simp [limb_1_1, Cond.after, Cond.holds, Cond.value]), lw_limb limb_1_2 (fun args s t => Cond.after_iff.mpr (by
  first | (rw [show limb_1_2 = Cond.eq .result (.int 1) from rfl, Cond.eq_ints (x := 1) (y := 1) rfl rfl]; simp; done) | (simp [limb_1_2, Cond.value, Term.eval]; done)))⟩
