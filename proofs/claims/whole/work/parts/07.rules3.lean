section R3
variable {X : aX} {d mid bc bs pc : Nat} {ls : aL} {st : List Value} {N : aN} {post : aO}
/-- behind a call -/
theorem am_after {p : Program} {l : Launch} {e : Env} {R : Room} {s : State} {m : MethodId} {args : Array Value} {below : List Frame} {meth : Method} {c : Code} {H : Heap} {locs : List Loc} {cells slots mc ms : Nat} {Q : State → Prop} {lsr : Array Slot} {st0 rest : List Value} {G : aG} {a : Array Value} {ps : aO}
    (hr : va_Run p l e R s m args below meth c H locs cells slots mc ms (F0 m pc lsr st0) rest (aQc G ps a) (gB G)) (hS : va_S (gB G) s.heap H locs)
    (kk : ∀ (r : Option Value) (N : aN) (H1 : Heap) (locs1 : List Loc), ps r N → aW G N H1 → va_S (gB G) s.heap H1 locs1 → W p l e R s m args below meth c H1 locs1 (cells + mc) (slots + ms) Q (F0 m (pc + 3) lsr ((r.map (rV G)).toList ++ rest))) : W p l e R s m args below meth c H locs cells slots Q (F0 m pc lsr st0) := by
  intro T hT X
  obtain ⟨v, st₀, t, T', L, h0, X', hL, e1, e2, ⟨⟨r, N, hv, hp, hw⟩, hz, hk⟩, st⟩ := hr T hT X
  cases hv
  rw [h0] at hz hk
  obtain ⟨t2, a1, b1⟩ := kk r N T'.heap (locs ++ L) hp (by rw [e1]; exact hw) ⟨Nat.le_trans hS.1 (by rw [e1]; exact hz), fun q h1 h2 => by rw [e1, hk q (Nat.lt_of_lt_of_le h1 hS.1) h2]; exact hS.2.1 q h1 h2, fun q hq => by
      rcases List.mem_append.mp hq with h | h
      · exact hS.2.2 q h
      · exact hL q h⟩ T' rfl X'
  exact ⟨t2, st t2 a1, b1⟩
theorem aPc_blind {G : aG} {as : List Value} : FrameBlind (aPc X G as N) := fun a U g mk h => ⟨h.1, h.2.1, h.2.2.calling g mk a⟩
theorem aPc_of {G : aG} {s U : State} {H : Heap} {locs : List Loc} {as : List Value} (hK : aK G X s) (hW : aW G N H) (hS : va_S (gB G) s.heap H locs) (hU : U.heap = H) (hw : s.WarmedH U.vm) : aPc X G as N (as.map (rV G)).toArray U :=
  ⟨rfl, by rw [hU]; exact hW, hK.warm hw (fun q hq => by rw [hU]; exact hS.2.1 q (Nat.lt_of_lt_of_le hq hK.2.2.2.2.2.2.2) (Nat.not_le.mpr hq)) (by rw [hU]; exact Nat.le_trans hK.2.2.2.2.2.2.2 hS.1)⟩
theorem am_good {y : MethodName} {cc : ByteArray} {n : Nat} {rt : Option FieldType} (h : Cond.code y cc n rt ∈ am_big) : GoodIn am_big (Cond.code y cc n rt :: am_big) := fun w hw => by
  rcases List.mem_cons.mp hw with rfl | hw
  · exact am_bigg h
  · exact am_bigg hw
/-- the callee's place: its words and the room -/
def am_pl (mid2 n : Nat) : Prop := mid2 < 203 ∧ (parseMethodDescriptor (am_y mid2).desc).map (fun d => d.parameters.length) = some n ∧ am_l mid2 ≤ 30 ∧ (am_y mid2).cls ≠ "java/lang/invoke/MethodHandle" ∧ (am_y mid2).cls ≠ "java/lang/invoke/VarHandle" ∧ Cond.initialized (am_y mid2).cls ∈ am_big
theorem am_pR {G : aG} {r : Option Value} {st : List Value} : (r.map (rV G)).toList ++ st.map (rV G) = (pR r st).map (rV G) := by cases r <;> rfl
theorem wr_invV {mid2 n idx b1 b2 c1 c2 : Nat} {a ci : Nat} {as : List Value} (hp2 : am_pl mid2 n) (hlen : as.length = n) (hst : (st.map fun v => v.category).sum ≤ 8) (hb1 : bc = b1 + c1) (hb2 : bs = b2 + c2) (ha : a < nC N) (hsh : sH N a = (10 + ci, qM ci)) (hci : ci < 5) (hcc : qR ci = (am_y mid2).cls) (hli : Cond.methodLink (am_y mid).cls idx (am_y mid2) ∈ am_big) (hin : Cond.instanceMethod (am_y mid2) ∈ am_big) (hse : Cond.selects (am_y mid2).cls (am_y mid2) (am_y mid2) ∈ am_big) (hd : decode (am_c mid) pc = .ok (.invokevirtual idx, 3)) (k0 : CallOk X d c1 c2 mid2 (.ref a :: as) N (fun r N' => wp X (d + 1) mid b1 b2 (pc + 3) ls (pR r st) N' post)) : wp X (d + 1) mid bc bs pc ls (as.reverse ++ .ref a :: st) N post := by
  intro G p l e R s m args below meth c mc ms Q hC hK hR hret H locs cells slots lsr hW hS hc hs hl hn
  obtain ⟨hx, hb, hml, hown, hts, hnm, hdf, hdl⟩ := id hC
  have k : ∀ r N', wp X (d + 1) mid b1 b2 (pc + 3) ls (pR r st) N' post → wp X (d + 1) mid b1 b2 (pc + 3) ls (pR r st) N' post := fun _ _ h => h
  obtain ⟨hm2, hds, hl2, hh1, hh2, hini⟩ := hp2
  have hcode := am_code hm2
  have hG := am_good hcode
  have hroom : 2 * (F0 m pc lsr ((as.reverse ++ .ref a :: st).map (rV G))).monitorRoom + ((st.map (rV G)).map fun v => v.category).sum ≤ 8 := by
    rw [List.map_map, show ((fun v => Value.category v) ∘ rV G) = fun v => v.category from funext fun v => rV_cat G v]
    exact lv_room (m := m) (pc := pc) (ls := lsr) (rest := []) hst
  have hstk : ((as.reverse ++ .ref a :: st).map (rV G)) = (as.map (rV G)).reverse ++ .ref (G.1 + a) :: st.map (rV G) := by
    rw [List.map_append, List.map_reverse, List.map_cons, show rV G (.ref a) = .ref (G.1 + a) by show Value.ref _ = _; rw [gA_lt ha hW.2.2]]
  have hargs : (.ref a :: as : List Value).map (rV G) = .ref (G.1 + a) :: as.map (rV G) := by
    rw [List.map_cons, show rV G (.ref a) = .ref (G.1 + a) by show Value.ref _ = _; rw [gA_lt ha hW.2.2]]
  have hPc : ∀ U : State, U.heap = H → s.WarmedH U.vm → aPc X G (.ref a :: as) N (.ref (G.1 + a) :: as.map (rV G) : List Value).toArray U := fun U hU hw => by
    have := aPc_of (as := .ref a :: as) hK hW hS hU hw
    rw [hargs] at this
    exact this
  have he := ws_at (G := G) ha
  rw [cE_obj hsh] at he
  have hrv := va_recv hK.1 hW.1 (q_cl hci) he
  rw [hcc] at hrv
  refine am_after (va_runV (As := as.map (rV G)) ⟨hx, hb, hml, hown, hts⟩ (k0 G l) ⟨callB_of (ws' := am_big) n hts hG rfl rfl rfl (hts _ hini) (hts _ hli) ⟨hh1, hh2, hds⟩ ⟨by show d + 1 ≤ R.frames; omega, by show 8 + (am_l mid2 + 11) + 60 * d ≤ R.locals; omega⟩, hts _ hin, hts _ hse⟩ ⟨aPc_blind, hrv, hPc⟩ rfl (by rw [List.length_map]; exact hlen) (hl.1) hstk hroom hd ⟨by omega, by omega⟩) hS (fun r N' H1 locs1 hp hW1 hS1 => ?_)
  rw [am_pR]
  exact k r N' hp G p l e R s m args below meth c mc ms Q hC hK hR hret H1 locs1 (cells + c1) (slots + c2) lsr hW1 hS1 (by omega) (by omega) hl hn
theorem wr_invS {mid2 n idx b1 b2 c1 c2 : Nat}  {as : List Value} (hp2 : am_pl mid2 n) (hlen : as.length = n) (hst : (st.map fun v => v.category).sum ≤ 8) (hb1 : bc = b1 + c1) (hb2 : bs = b2 + c2) (hli : Cond.methodLink (am_y mid).cls idx (am_y mid2) ∈ am_big) (hsa : Cond.static (am_y mid2) ∈ am_big) (hd : decode (am_c mid) pc = .ok (.invokestatic idx, 3)) (k0 : CallOk X d c1 c2 mid2 as N (fun r N' => wp X (d + 1) mid b1 b2 (pc + 3) ls (pR r st) N' post)) : wp X (d + 1) mid bc bs pc ls (as.reverse ++ st) N post := by
  intro G p l e R s m args below meth c mc ms Q hC hK hR hret H locs cells slots lsr hW hS hc hs hl hn
  obtain ⟨hx, hb, hml, hown, hts, hnm, hdf, hdl⟩ := id hC
  have k : ∀ r N', wp X (d + 1) mid b1 b2 (pc + 3) ls (pR r st) N' post → wp X (d + 1) mid b1 b2 (pc + 3) ls (pR r st) N' post := fun _ _ h => h
  obtain ⟨hm2, hds, hl2, hh1, hh2, hini⟩ := hp2
  have hcode := am_code hm2
  have hG := am_good hcode
  have hroom : 2 * (F0 m pc lsr ((as.reverse ++ st).map (rV G))).monitorRoom + ((st.map (rV G)).map fun v => v.category).sum ≤ 8 := by
    rw [List.map_map, show ((fun v => Value.category v) ∘ rV G) = fun v => v.category from funext fun v => rV_cat G v]
    exact lv_room (m := m) (pc := pc) (ls := lsr) (rest := []) hst
  have hstk : ((as.reverse ++ st).map (rV G)) = (as.map (rV G)).reverse ++ st.map (rV G) := by
    rw [List.map_append, List.map_reverse]
  have hargs : (as : List Value).map (rV G) = as.map (rV G) := by
    rfl
  have hPc : ∀ U : State, U.heap = H → s.WarmedH U.vm → aPc X G as N (as.map (rV G) : List Value).toArray U := fun U hU hw => by
    have := aPc_of (as := as) hK hW hS hU hw
    rw [hargs] at this
    exact this

  refine am_after (va_runS (As := as.map (rV G)) ⟨hx, hb, hml, hown, hts⟩ (k0 G l) ⟨callB_of (ws' := am_big) n hts hG rfl rfl rfl (hts _ hini) (hts _ hli) ⟨hh1, hh2, hds⟩ ⟨by show d + 1 ≤ R.frames; omega, by show 8 + (am_l mid2 + 11) + 60 * d ≤ R.locals; omega⟩, hts _ hsa⟩ ⟨aPc_blind, hPc⟩ rfl (by rw [List.length_map]; exact hlen) (hl.1) hstk hroom hd ⟨by omega, by omega⟩) hS (fun r N' H1 locs1 hp hW1 hS1 => ?_)
  rw [am_pR]
  exact k r N' hp G p l e R s m args below meth c mc ms Q hC hK hR hret H1 locs1 (cells + c1) (slots + c2) lsr hW1 hS1 (by omega) (by omega) hl hn
theorem wr_invI {mid2 n idx b1 b2 c1 c2 : Nat} {a : Nat} {as : List Value} (hp2 : am_pl mid2 n) (hlen : as.length = n) (hst : (st.map fun v => v.category).sum ≤ 8) (hb1 : bc = b1 + c1) (hb2 : bs = b2 + c2) (ha : a < nC N) (hli : Cond.methodLink (am_y mid).cls idx (am_y mid2) ∈ am_big) (hin : Cond.instanceMethod (am_y mid2) ∈ am_big) (hi1 : (am_y mid2).name = "<init>") (hi2 : am_r mid2 = none) (hd : decode (am_c mid) pc = .ok (.invokespecial idx, 3)) (k0 : CallOk X d c1 c2 mid2 (.ref a :: as) N (fun r N' => wp X (d + 1) mid b1 b2 (pc + 3) ls (pR r st) N' post)) : wp X (d + 1) mid bc bs pc ls (as.reverse ++ .ref a :: st) N post := by
  intro G p l e R s m args below meth c mc ms Q hC hK hR hret H locs cells slots lsr hW hS hc hs hl hn
  obtain ⟨hx, hb, hml, hown, hts, hnm, hdf, hdl⟩ := id hC
  have k : ∀ r N', wp X (d + 1) mid b1 b2 (pc + 3) ls (pR r st) N' post → wp X (d + 1) mid b1 b2 (pc + 3) ls (pR r st) N' post := fun _ _ h => h
  obtain ⟨hm2, hds, hl2, hh1, hh2, hini⟩ := hp2
  have hcode := am_code hm2
  have hG := am_good hcode
  have hroom : 2 * (F0 m pc lsr ((as.reverse ++ .ref a :: st).map (rV G))).monitorRoom + ((st.map (rV G)).map fun v => v.category).sum ≤ 8 := by
    rw [List.map_map, show ((fun v => Value.category v) ∘ rV G) = fun v => v.category from funext fun v => rV_cat G v]
    exact lv_room (m := m) (pc := pc) (ls := lsr) (rest := []) hst
  have hstk : ((as.reverse ++ .ref a :: st).map (rV G)) = (as.map (rV G)).reverse ++ .ref (G.1 + a) :: st.map (rV G) := by
    rw [List.map_append, List.map_reverse, List.map_cons, show rV G (.ref a) = .ref (G.1 + a) by show Value.ref _ = _; rw [gA_lt ha hW.2.2]]
  have hargs : (.ref a :: as : List Value).map (rV G) = .ref (G.1 + a) :: as.map (rV G) := by
    rw [List.map_cons, show rV G (.ref a) = .ref (G.1 + a) by show Value.ref _ = _; rw [gA_lt ha hW.2.2]]
  have hPc : ∀ U : State, U.heap = H → s.WarmedH U.vm → aPc X G (.ref a :: as) N (.ref (G.1 + a) :: as.map (rV G) : List Value).toArray U := fun U hU hw => by
    have := aPc_of (as := .ref a :: as) hK hW hS hU hw
    rw [hargs] at this
    exact this
  have k1 := k0 G l
  rw [hi2] at k1 hG
  refine am_after (va_runI (As := as.map (rV G)) ⟨hx, hb, hml, hown, hts⟩ k1 ⟨callB_of (ws' := am_big) n hts hG rfl rfl rfl (hts _ hini) (hts _ hli) ⟨hh1, hh2, hds⟩ ⟨by show d + 1 ≤ R.frames; omega, by show 8 + (am_l mid2 + 11) + 60 * d ≤ R.locals; omega⟩, hi1, hts _ hin⟩ ⟨aPc_blind, hPc⟩ rfl (by rw [List.length_map]; exact hlen) (hl.1) hstk hroom hd ⟨by omega, by omega⟩) hS (fun r N' H1 locs1 hp hW1 hS1 => ?_)
  rw [am_pR]
  exact k r N' hp G p l e R s m args below meth c mc ms Q hC hK hR hret H1 locs1 (cells + c1) (slots + c2) lsr hW1 hS1 (by omega) (by omega) hl hn
theorem wr_invSN {mid2 n idx b1 b2 c1 c2 : Nat} {host : String} {as : List Value} (hp2 : am_pl mid2 n) (hlen : as.length = n) (hst : (st.map fun v => v.category).sum ≤ 8) (hb1 : bc = b1 + c1) (hb2 : bs = b2 + c2) (hli : ((am_y mid).cls, idx, am_y mid2, host) ∈ am_nm) (hsa : Cond.static (am_y mid2) ∈ am_big) (hd : decode (am_c mid) pc = .ok (.invokestatic idx, 3)) (k0 : CallOk X d c1 c2 mid2 as N (fun r N' => wp X (d + 1) mid b1 b2 (pc + 3) ls (pR r st) N' post)) : wp X (d + 1) mid bc bs pc ls (as.reverse ++ st) N post := by
  intro G p l e R s m args below meth c mc ms Q hC hK hR hret H locs cells slots lsr hW hS hc hs hl hn
  obtain ⟨hx, hb, hml, hown, hts, hnm, hdf, hdl⟩ := id hC
  have k : ∀ r N', wp X (d + 1) mid b1 b2 (pc + 3) ls (pR r st) N' post → wp X (d + 1) mid b1 b2 (pc + 3) ls (pR r st) N' post := fun _ _ h => h
  obtain ⟨hm2, hds, hl2, hh1, hh2, hini⟩ := hp2
  have hcode := am_code hm2
  have hG := am_good hcode
  have hroom : 2 * (F0 m pc lsr ((as.reverse ++ st).map (rV G))).monitorRoom + ((st.map (rV G)).map fun v => v.category).sum ≤ 8 := by
    rw [List.map_map, show ((fun v => Value.category v) ∘ rV G) = fun v => v.category from funext fun v => rV_cat G v]
    exact lv_room (m := m) (pc := pc) (ls := lsr) (rest := []) hst
  have hstk : ((as.reverse ++ st).map (rV G)) = (as.map (rV G)).reverse ++ st.map (rV G) := by
    rw [List.map_append, List.map_reverse]
  have hargs : (as : List Value).map (rV G) = as.map (rV G) := by
    rfl
  have hPc : ∀ U : State, U.heap = H → s.WarmedH U.vm → aPc X G as N (as.map (rV G) : List Value).toArray U := fun U hU hw => by
    have := aPc_of (as := as) hK hW hS hU hw
    rw [hargs] at this
    exact this

  refine am_after (va_runSN (As := as.map (rV G)) ⟨hx, hb, hml, hown, hts⟩ (k0 G l) ⟨va_cnB (ws' := am_big) n hts hG rfl rfl rfl (hK.2.1 _ hli) (hts _ hini) ⟨hh1, hh2, hds⟩ ⟨by show d + 1 ≤ R.frames; omega, by show 8 + (am_l mid2 + 11) + 60 * d ≤ R.locals; omega⟩, hts _ hsa, trivial⟩ ⟨aPc_blind, hPc⟩ rfl (by rw [List.length_map]; exact hlen) (hl.1) hstk hroom hd ⟨by omega, by omega⟩) hS (fun r N' H1 locs1 hp hW1 hS1 => ?_)
  rw [am_pR]
  exact k r N' hp G p l e R s m args below meth c mc ms Q hC hK hR hret H1 locs1 (cells + c1) (slots + c2) lsr hW1 hS1 (by omega) (by omega) hl hn
theorem wr_invIN {mid2 n idx b1 b2 c1 c2 : Nat} {a : Nat} {host : String} {as : List Value} (hp2 : am_pl mid2 n) (hlen : as.length = n) (hst : (st.map fun v => v.category).sum ≤ 8) (hb1 : bc = b1 + c1) (hb2 : bs = b2 + c2) (ha : a < nC N) (hli : ((am_y mid).cls, idx, am_y mid2, host) ∈ am_nm) (hin : Cond.instanceMethod (am_y mid2) ∈ am_big) (hi1 : (am_y mid2).name = "<init>") (hi2 : am_r mid2 = none) (hd : decode (am_c mid) pc = .ok (.invokespecial idx, 3)) (k0 : CallOk X d c1 c2 mid2 (.ref a :: as) N (fun r N' => wp X (d + 1) mid b1 b2 (pc + 3) ls (pR r st) N' post)) : wp X (d + 1) mid bc bs pc ls (as.reverse ++ .ref a :: st) N post := by
  intro G p l e R s m args below meth c mc ms Q hC hK hR hret H locs cells slots lsr hW hS hc hs hl hn
  obtain ⟨hx, hb, hml, hown, hts, hnm, hdf, hdl⟩ := id hC
  have k : ∀ r N', wp X (d + 1) mid b1 b2 (pc + 3) ls (pR r st) N' post → wp X (d + 1) mid b1 b2 (pc + 3) ls (pR r st) N' post := fun _ _ h => h
  obtain ⟨hm2, hds, hl2, hh1, hh2, hini⟩ := hp2
  have hcode := am_code hm2
  have hG := am_good hcode
  have hroom : 2 * (F0 m pc lsr ((as.reverse ++ .ref a :: st).map (rV G))).monitorRoom + ((st.map (rV G)).map fun v => v.category).sum ≤ 8 := by
    rw [List.map_map, show ((fun v => Value.category v) ∘ rV G) = fun v => v.category from funext fun v => rV_cat G v]
    exact lv_room (m := m) (pc := pc) (ls := lsr) (rest := []) hst
  have hstk : ((as.reverse ++ .ref a :: st).map (rV G)) = (as.map (rV G)).reverse ++ .ref (G.1 + a) :: st.map (rV G) := by
    rw [List.map_append, List.map_reverse, List.map_cons, show rV G (.ref a) = .ref (G.1 + a) by show Value.ref _ = _; rw [gA_lt ha hW.2.2]]
  have hargs : (.ref a :: as : List Value).map (rV G) = .ref (G.1 + a) :: as.map (rV G) := by
    rw [List.map_cons, show rV G (.ref a) = .ref (G.1 + a) by show Value.ref _ = _; rw [gA_lt ha hW.2.2]]
  have hPc : ∀ U : State, U.heap = H → s.WarmedH U.vm → aPc X G (.ref a :: as) N (.ref (G.1 + a) :: as.map (rV G) : List Value).toArray U := fun U hU hw => by
    have := aPc_of (as := .ref a :: as) hK hW hS hU hw
    rw [hargs] at this
    exact this
  have k1 := k0 G l
  rw [hi2] at k1 hG
  refine am_after (va_runIN (As := as.map (rV G)) ⟨hx, hb, hml, hown, hts⟩ k1 ⟨va_cnB (ws' := am_big) n hts hG rfl rfl rfl (hK.2.1 _ hli) (hts _ hini) ⟨hh1, hh2, hds⟩ ⟨by show d + 1 ≤ R.frames; omega, by show 8 + (am_l mid2 + 11) + 60 * d ≤ R.locals; omega⟩, hi1, hts _ hin⟩ ⟨aPc_blind, hPc⟩ rfl (by rw [List.length_map]; exact hlen) (hl.1) hstk hroom hd ⟨by omega, by omega⟩) hS (fun r N' H1 locs1 hp hW1 hS1 => ?_)
  rw [am_pR]
  exact k r N' hp G p l e R s m args below meth c mc ms Q hC hK hR hret H1 locs1 (cells + c1) (slots + c2) lsr hW1 hS1 (by omega) (by omega) hl hn
/-- a method's contract out of the walk of its body -/
theorem lva_las {G : aG} : ∀ (as : List Value) (i : Nat), (∀ v ∈ as, ∀ x, v ≠ .double x) → las G i (lva as) = lv_args i (as.map (rV G))
  | [], _, _ => rfl
  | v :: t, i, h => by
    have ht := fun i => lva_las (G := G) t i (fun w hw => h w (List.mem_cons_of_mem _ hw))
    cases v with
    | long x =>
      show (i, rV G (.long x)) :: las G (i + 1 + 1) (lva t) = lv_args i (rV G (.long x) :: t.map (rV G))
      rw [ht]; rfl
    | double x => exact absurd rfl (h _ List.mem_cons_self x)
    | int x =>
      show (i, rV G (.int x)) :: las G (i + 1) (lva t) = lv_args i (rV G (.int x) :: t.map (rV G))
      rw [ht]; rfl
    | float x =>
      show (i, rV G (.float x)) :: las G (i + 1) (lva t) = lv_args i (rV G (.float x) :: t.map (rV G))
      rw [ht]; rfl
    | null =>
      show (i, rV G .null) :: las G (i + 1) (lva t) = lv_args i (rV G .null :: t.map (rV G))
      rw [ht]; rfl
    | ref x =>
      show (i, rV G (.ref x)) :: las G (i + 1) (lva t) = lv_args i (rV G (.ref x) :: t.map (rV G))
      rw [ht]; rfl
    | retAddr x =>
      show (i, rV G (.retAddr x)) :: las G (i + 1) (lva t) = lv_args i (rV G (.retAddr x) :: t.map (rV G))
      rw [ht]; rfl
theorem las_rep {G : aG} : ∀ (n i : Nat), las G i (List.replicate n none) = []
  | 0, _ => rfl
  | n + 1, i => las_rep n (i + 1)
theorem las_app {G : aG} : ∀ (a b : aL) (i : Nat), las G i (a ++ b) = las G i a ++ las G (i + a.length) b
  | [], b, i => rfl
  | none :: t, b, i => by
    show las G (i + 1) (t ++ b) = las G (i + 1) t ++ las G (i + (t.length + 1)) b
    rw [las_app t b (i + 1), show i + 1 + t.length = i + (t.length + 1) by omega]
  | some v :: t, b, i => by
    show (i, rV G v) :: las G (i + 1) (t ++ b) = (i, rV G v) :: (las G (i + 1) t ++ las G (i + (t.length + 1)) b)
    rw [las_app t b (i + 1), show i + 1 + t.length = i + (t.length + 1) by omega]
theorem lva_len {G : aG} : ∀ (as : List Value), (∀ v ∈ as, ∀ x, v ≠ .double x) → (lg_sl (as.map (rV G))).length = (lva as).length
  | [], _ => rfl
  | v :: t, h => by
    have ht := lva_len (G := G) t (fun w hw => h w (List.mem_cons_of_mem _ hw))
    have e : ∀ w : Value, (lg_sl (w :: t.map (rV G))).length = (if w.category = 2 then 2 else 1) + (lg_sl (t.map (rV G))).length := fun w => by
      simp only [lg_sl, List.flatMap_cons, List.length_append]
      by_cases hc : w.category = 2 <;> simp [hc]
    rw [List.map_cons, e, ht, rV_cat]
    cases v <;> first | exact absurd rfl (h _ List.mem_cons_self _) | (simp only [lva, Value.category, List.length_cons]; simp; omega)
theorem CallOk.intro {args : List Value} (hpl : plainName (am_y mid).cls = true) (hnd : (args.all fun v => match v with | .double _ => false | _ => true) = true) (hlen : (lva args).length ≤ am_l mid) (k : wp X d mid bc bs 0 (lve args (am_l mid)) [] N post) : CallOk X d bc bs mid args N post := by
  intro G l
  have hnd' : ∀ v ∈ args, ∀ x, v ≠ .double x := fun v hv x h => by
    have := List.all_eq_true.mp hnd v hv
    rw [h] at this
    cases this
  refine Met.ofW (cc := am_c mid) (maxL := am_l mid) (ret := am_r mid) hpl rfl ?_
  intro p e s m as below meth c s₁ B hml hP
  obtain ⟨rfl, hW, hK⟩ := hP
  have hts := atoms_spec (ws := Cond.code (am_y mid) (am_c mid) (am_l mid) (am_r mid) :: am_big) B.pre
  have hl := lv_entry (args.map (rV G)) (n := am_l mid) (by rw [lva_len args hnd']; exact hlen)
  rw [lg_entry_eq]
  generalize (lg_sl (args.map (rV G)) ++ List.replicate (am_l mid - (lg_sl (args.map (rV G))).length) Slot.unset).toArray = lsr at hl ⊢
  refine k G p l e (aRm d bc bs) s m _ below meth c bc bs _ ⟨B.exec, B.bytes, hml, findClass_of_methodNamed B.named, fun w hw => hts w (List.mem_cons_of_mem _ hw), (fun h => (name_of_methodNamed B.named B.method).1.trans h), Nat.le_refl _, Nat.le_refl _⟩ hK ⟨Nat.le_refl _, Nat.le_refl _⟩ ?_ s.heap [] 0 0 lsr hW va_S.rf (by omega) (by omega) ?_ ?_
  · intro H locs cells slots lsr pc r N' hp hW' hS' hc1 hc2 hr
    refine W.widen hc1 hc2 ?_
    have hq : ∀ t : State, t.heap = H → s.WarmedH t.vm → aQc G post (args.map (rV G)).toArray s (.returned (r.map (rV G))) t := fun t ht _ => ⟨⟨r, N', rfl, hp, by rw [ht]; exact hW'⟩, hS'.F ht⟩
    have hf : ∀ q ∈ locs, gB G q.base := hS'.2.2
    rcases hr with ⟨rfl, hd, hr⟩ | ⟨x, rfl, hd, hr⟩ | ⟨x, rfl, hd, hr⟩
    · exact W.vret B.exec B.bytes (B.returns.trans hr) hq hf hd B.notSynchronized
    · rcases hr with hr | ⟨hr, hx⟩
      · exact W.iret B.exec B.bytes (B.returns.trans hr) hq hf hd B.notSynchronized
      · exact W.zret B.exec B.bytes (B.returns.trans hr) (by rcases hx with rfl | rfl <;> rfl) hq hf hd B.notSynchronized
    · exact W.lret B.exec B.bytes (B.returns.trans hr) hq hf hd B.notSynchronized
  · unfold lve
    rw [las_app, las_rep, List.append_nil, lva_las args 0 hnd']
    exact hl
  · unfold lve
    rw [List.length_append, List.length_replicate]
    omega
end R3
