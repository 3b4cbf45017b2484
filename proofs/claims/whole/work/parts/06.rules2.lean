/-! the classes, by number -/
abbrev qR (ci : Nat) : String := (am_cl.getD ci (am_R0, am_T0, 0)).1
abbrev qT (ci : Nat) : u_T := (am_cl.getD ci (am_R0, am_T0, 0)).2.1
abbrev qM (ci : Nat) : Nat := (am_cl.getD ci (am_R0, am_T0, 0)).2.2
def qY (ci : Nat) : Nat → FieldType := match ci with
  | 0 => am_t0
  | 1 => am_t1
  | 2 => am_t2
  | 3 => am_t3
  | _ => am_t4
theorem q_cl {ci : Nat} (h : ci < 5) : am_cl[ci]? = some (qR ci, qT ci, qM ci) := by
  rcases (show ci = 0 ∨ ci = 1 ∨ ci = 2 ∨ ci = 3 ∨ ci = 4 by omega) with rfl | rfl | rfl | rfl | rfl <;> rfl
theorem q_in {ci : Nat} (h : ci < 5) : ∀ w ∈ u_ws (qR ci) (qT ci) (qM ci), w ∈ am_big := by
  rcases (show ci = 0 ∨ ci = 1 ∨ ci = 2 ∨ ci = 3 ∨ ci = 4 by omega) with rfl | rfl | rfl | rfl | rfl
  · exact am_w0
  · exact am_w1
  · exact am_w2
  · exact am_w3
  · exact am_w4
theorem q_ty {ci : Nat} (h : ci < 5) : ∀ k, k < qM ci → parseFieldDescriptor (qT ci k).2.2.1 = some (qY ci k) := by
  rcases (show ci = 0 ∨ ci = 1 ∨ ci = 2 ∨ ci = 3 ∨ ci = 4 by omega) with rfl | rfl | rfl | rfl | rfl
  · exact am_ty0
  · exact am_ty1
  · exact am_ty2
  · exact am_ty3
  · exact am_ty4
theorem q_nm {ci : Nat} (h : ci < 5) : ∀ a, a < qM ci → ∀ b, b < qM ci → a ≠ b → (qT ci a).2.1 ≠ (qT ci b).2.1 := by
  rcases (show ci = 0 ∨ ci = 1 ∨ ci = 2 ∨ ci = 3 ∨ ci = 4 by omega) with rfl | rfl | rfl | rfl | rfl
  · exact am_n0
  · exact am_n1
  · exact am_n2
  · exact am_n3
  · exact am_n4
theorem q_dc : ∀ ci, ci < 5 → ∀ k, k < qM ci → (qT ci k).1 = qR ci := by decide +kernel
theorem q_f0 : ∀ ci, ci < 5 → ∀ k, k < qM ci → am_ft ci k = 0 → qY ci k = .int ∧ (qT ci k).2.2.2 = false := by decide +kernel
theorem q_f1 : ∀ ci, ci < 5 → ∀ k, k < qM ci → am_ft ci k = 1 → qY ci k = .long ∧ (qT ci k).2.2.2 = false := by decide +kernel
theorem q_f3 : ∀ ci, ci < 5 → ∀ k, k < qM ci → am_ft ci k = 3 → qY ci k = .boolean ∧ (qT ci k).2.2.2 = false := by decide +kernel
theorem q_f2 : ∀ ci, ci < 5 → ∀ k, k < qM ci → am_ft ci k = 2 → qY ci k ∈ ([.array .int, .object am_R0, .object am_R1, .array (.object am_R0), .array (.object am_R2)] : List FieldType) ∧ (qT ci k).2.2.2 = true := by decide +kernel
/-! cells -/
section Cells
variable {G : aG} {N : aN}
theorem ws_at {a : Nat} (h : a < nC N) : (wsL G N)[a]? = some (G.1 + a, cE G N a) := by
  simp [wsL, h]
theorem ws_len : (wsL G N).length = nC N := by simp [wsL]
theorem cE_int {a n : Nat} (h : sH N a = (0, n)) : cE G N a = .inl (gI G, n, .inl (vI N a)) := by
  unfold cE; rw [h]; rfl
theorem cE_row {a n : Nat} (h : sH N a = (1, n)) : cE G N a = .inl (gR G, n, .inr (.inr (.inr (.inr (fun j => rO G (vR N a j)))))) := by
  unfold cE; rw [h]; rfl
theorem cE_clo {a n : Nat} (h : sH N a = (2, n)) : cE G N a = .inl (gC G, n, .inr (.inr (.inr (.inr (fun j => rO G (vR N a j)))))) := by
  unfold cE; rw [h]; rfl
theorem cE_obj {a ci M : Nat} (h : sH N a = (10 + ci, M)) : cE G N a = .inr (ci, (List.range M).map (fV G N ci a)) := by
  unfold cE; rw [h]
  have e : 10 + ci - 10 = ci := by omega
  simp only [e]
  rw [if_neg (by omega), if_neg (by omega), if_neg (by omega)]
theorem gA_lt {a : Nat} (h : a < nC N) (hn : nC N ≤ 1000) : gA G a = G.1 + a := by
  unfold gA
  rw [if_neg (by omega), if_neg (by omega), if_neg (by omega)]
theorem ws_ix {i : Nat} {q : Nat × va_E} (h : (wsL G N)[i]? = some q) : i < nC N ∧ q = (G.1 + i, cE G N i) := by
  have hl : i < nC N := by have := (List.getElem?_eq_some_iff.mp h).1; rwa [ws_len] at this
  rw [ws_at hl] at h
  exact ⟨hl, (Option.some.inj h).symm⟩
theorem wsD : va_D (gB G) (wsL G N) := by
  refine ⟨fun i j x y hi hj hxy => ?_, fun k q hk => ?_⟩
  · obtain ⟨-, rfl⟩ := ws_ix hi
    obtain ⟨-, rfl⟩ := ws_ix hj
    dsimp only at hxy
    omega
  · obtain ⟨-, rfl⟩ := ws_ix hk
    exact Nat.le_add_right _ _
theorem ws_set {N' : aN} {a : Nat} {e : va_E} (hn : nC N' = nC N) (ha : a < nC N) (he : e = cE G N' a) (ho : ∀ j, j ≠ a → cE G N' j = cE G N j) : (wsL G N).set a (G.1 + a, e) = wsL G N' := by
  apply List.ext_getElem?
  intro i
  by_cases hi : i < nC N
  · rw [ws_at (N := N') (by omega)]
    by_cases hia : i = a
    · subst hia
      rw [List.getElem?_set_self (by rw [ws_len]; exact hi), he]
    · rw [List.getElem?_set_ne (Ne.symm hia), ws_at hi, ho i hia]
  · rw [List.getElem?_eq_none (by rw [List.length_set, ws_len]; omega), List.getElem?_eq_none (by rw [ws_len]; omega)]
theorem fs_set {M k : Nat} {f g : Nat → Value} {v : Value} (hk : k < M) (hv : g k = v) (ho : ∀ j, j ≠ k → g j = f j) : ((List.range M).map f).set k v = (List.range M).map g := by
  apply List.ext_getElem?
  intro i
  by_cases hi : i = k
  · subst hi
    rw [List.getElem?_set_self (by simpa using hk)]
    simp [hk, hv]
  · rw [List.getElem?_set_ne (Ne.symm hi)]
    by_cases hM : i < M
    · simp [hM, ho i hi]
    · rw [List.getElem?_eq_none (by simpa using hM), List.getElem?_eq_none (by simpa using hM)]
theorem cE_cg {N' : aN} {j : Nat} (h1 : vI N' j = vI N j) (h2 : vL N' j = vL N j) (h3 : vR N' j = vR N j) (h4 : sH N' j = sH N j) : cE G N' j = cE G N j := by
  have hf : ∀ ci, fV G N' ci j = fV G N ci j := fun ci => by funext k; unfold fV; rw [h1, h2, h3]
  unfold cE
  rw [h1, h3, h4, hf]
theorem cE_sI {a j k : Nat} {x : Int32} (h : j ≠ a) : cE G (sI N a k x) j = cE G N j := cE_cg (if_neg h) rfl rfl rfl
theorem cE_sL {a j k : Nat} {x : Int64} (h : j ≠ a) : cE G (sL N a k x) j = cE G N j := cE_cg rfl (if_neg h) rfl rfl
theorem cE_sR {a j k : Nat} {x : Nat} (h : j ≠ a) : cE G (sR N a k x) j = cE G N j := cE_cg rfl rfl (if_neg h) rfl
theorem cE_sA {a j : Nat} {f : Nat → Int32} (h : j ≠ a) : cE G (sA N a f) j = cE G N j := cE_cg (if_neg h) rfl rfl rfl
end Cells

section R2
variable {X : aX} {d mid bc bs pc : Nat} {ls : aL} {st : List Value} {N : aN} {post : aO}
theorem wr_getI {ci k0 idx a : Nat} (ha : a < nC N) (hsh : sH N a = (10 + ci, qM ci)) (hci : ci < 5) (hk : k0 < qM ci) (hln : Cond.fieldLink (am_y mid).cls idx (qR ci) (qT ci k0).2.1 (qT ci k0).2.2.1 ∈ am_big) (hft : am_ft ci k0 = 0 ∨ am_ft ci k0 = 3)  (hd : decode (am_c mid) pc = .ok (.getfield idx, 3)) (k : wp X d mid bc bs (pc + 3) ls (.int (vI N a k0) :: st) N post) : wp X d mid bc bs pc ls (.ref a :: st) N post := by
  intro G p l e R s m args below meth c mc ms Q hC hK hR hret H locs cells slots lsr hW hS hc hs hl hn
  obtain ⟨hx, hb, hml, hown, hts, hnm, hdf, hdl⟩ := id hC
  have he := ws_at (G := G) ha
  rw [cE_obj hsh] at he
  have hg : rV G (.ref a) = .ref (G.1 + a) := by show Value.ref _ = _; rw [gA_lt ha hW.2.2]
  show W p l e R s m args below meth c H locs cells slots Q (F0 m pc lsr (rV G (.ref a) :: st.map (rV G)))
  rw [hg]
  refine va_get hx hb hts (q_in hci) hown hK.1 hW.1 a he (q_cl hci) k0 hk (hts _ hln) (fun x h => by rw [q_dc ci hci k0 hk] at h; exact h) (v := rV G (.int (vI N a k0))) ?_ hd (k G p l e R s m args below meth c mc ms Q hC hK hR hret H locs cells slots lsr hW hS hc hs hl hn)
  simp only [List.getElem?_map, List.getElem?_range hk, Option.map_some]
  rcases hft with h | h <;> simp [fV, h, rV]
theorem wr_getL {ci k0 idx a : Nat} (ha : a < nC N) (hsh : sH N a = (10 + ci, qM ci)) (hci : ci < 5) (hk : k0 < qM ci) (hln : Cond.fieldLink (am_y mid).cls idx (qR ci) (qT ci k0).2.1 (qT ci k0).2.2.1 ∈ am_big) (hft : am_ft ci k0 = 1)  (hd : decode (am_c mid) pc = .ok (.getfield idx, 3)) (k : wp X d mid bc bs (pc + 3) ls (.long (vL N a k0) :: st) N post) : wp X d mid bc bs pc ls (.ref a :: st) N post := by
  intro G p l e R s m args below meth c mc ms Q hC hK hR hret H locs cells slots lsr hW hS hc hs hl hn
  obtain ⟨hx, hb, hml, hown, hts, hnm, hdf, hdl⟩ := id hC
  have he := ws_at (G := G) ha
  rw [cE_obj hsh] at he
  have hg : rV G (.ref a) = .ref (G.1 + a) := by show Value.ref _ = _; rw [gA_lt ha hW.2.2]
  show W p l e R s m args below meth c H locs cells slots Q (F0 m pc lsr (rV G (.ref a) :: st.map (rV G)))
  rw [hg]
  refine va_get hx hb hts (q_in hci) hown hK.1 hW.1 a he (q_cl hci) k0 hk (hts _ hln) (fun x h => by rw [q_dc ci hci k0 hk] at h; exact h) (v := rV G (.long (vL N a k0))) ?_ hd (k G p l e R s m args below meth c mc ms Q hC hK hR hret H locs cells slots lsr hW hS hc hs hl hn)
  simp only [List.getElem?_map, List.getElem?_range hk, Option.map_some]
  simp [fV, hft, rV]
theorem wr_getR {ci k0 idx a : Nat} (ha : a < nC N) (hsh : sH N a = (10 + ci, qM ci)) (hci : ci < 5) (hk : k0 < qM ci) (hln : Cond.fieldLink (am_y mid).cls idx (qR ci) (qT ci k0).2.1 (qT ci k0).2.2.1 ∈ am_big) (hft : am_ft ci k0 = 2) (h0 : vR N a k0 ≠ 0) (h1 : vR N a k0 ≤ nC N) (hd : decode (am_c mid) pc = .ok (.getfield idx, 3)) (k : wp X d mid bc bs (pc + 3) ls (.ref (vR N a k0 - 1) :: st) N post) : wp X d mid bc bs pc ls (.ref a :: st) N post := by
  intro G p l e R s m args below meth c mc ms Q hC hK hR hret H locs cells slots lsr hW hS hc hs hl hn
  obtain ⟨hx, hb, hml, hown, hts, hnm, hdf, hdl⟩ := id hC
  have he := ws_at (G := G) ha
  rw [cE_obj hsh] at he
  have hg : rV G (.ref a) = .ref (G.1 + a) := by show Value.ref _ = _; rw [gA_lt ha hW.2.2]
  show W p l e R s m args below meth c H locs cells slots Q (F0 m pc lsr (rV G (.ref a) :: st.map (rV G)))
  rw [hg]
  refine va_get hx hb hts (q_in hci) hown hK.1 hW.1 a he (q_cl hci) k0 hk (hts _ hln) (fun x h => by rw [q_dc ci hci k0 hk] at h; exact h) (v := rV G (.ref (vR N a k0 - 1))) ?_ hd (k G p l e R s m args below meth c mc ms Q hC hK hR hret H locs cells slots lsr hW hS hc hs hl hn)
  simp only [List.getElem?_map, List.getElem?_range hk, Option.map_some]
  have e : rV G (.ref (vR N a k0 - 1)) = .ref (G.1 + (vR N a k0 - 1)) := by show Value.ref _ = _; rw [gA_lt (N := N) (by omega) hW.2.2]
  rw [e]
  simp [fV, hft, rO, h0, va_rf]
section Put
variable {p : Program} {l : Launch} {e : Env} {R : Room} {s : State} {m : MethodId} {args : Array Value} {below : List Frame} {meth : Method} {c : Code} {H : Heap} {locs : List Loc} {cells slots : Nat} {Q : State → Prop} {cc : ByteArray} {lsr : Array Slot} {rest : List Value} {G : aG}
theorem am_put (hx : p.tables.exec = Jvm.exec) (hb : c.code = cc) {own : String} {ci index a k : Nat} (hts : ∀ w ∈ am_big, w.before args s = true) (hown : s.vm.findClass own = some m.cls) (hK : va_K (gD G) am_cl (aT G) s) (hW : aW G N H) (hS : va_S (gB G) s.heap H locs) (ha : a < nC N) (hsh : sH N a = (10 + ci, qM ci)) (hci : ci < 5) (hk : k < qM ci) (hln : Cond.fieldLink own index (qR ci) (qT ci k).2.1 (qT ci k).2.2.1 ∈ am_big)
    (hfin : (qT ci k).2.2.2 = false ∨ ((qT ci k).2.2.2 = true ∧ meth.name = "<init>" ∧ qR ci = own)) {v : Value} (hn : narrow (qY ci k) v = v) (hfit : fits (qY ci k) v = true) {N' : aN} (hn' : nC N' = nC N) (hsh' : sH N' a = sH N a) (hv : fV G N' ci a k = v) (ho : ∀ j, j ≠ k → fV G N' ci a j = fV G N ci a j) (hoc : ∀ j, j ≠ a → cE G N' j = cE G N j)
    (hd : decode cc pc = .ok (.putfield index, 3)) (kk : ∀ (H1 : Heap) (locs1 : List Loc), aW G N' H1 → va_S (gB G) s.heap H1 locs1 → W p l e R s m args below meth c H1 locs1 cells slots Q (F0 m (pc + 3) lsr rest)) : W p l e R s m args below meth c H locs cells slots Q (F0 m pc lsr (v :: .ref (G.1 + a) :: rest)) := by
  have hc := q_cl hci
  have hD : va_D (gB G) (wsL G N) := wsD
  have he := ws_at (G := G) ha
  rw [cE_obj hsh] at he
  have hap := va_apart (own := own) hts (q_in hci) (qY ci) (q_ty hci) (q_nm hci) hK hc
  obtain ⟨r, h1, cell, q1, q2, q3, q4⟩ := hW.1 a _ he
  have hr : r = (qR ci, qT ci, qM ci) := Option.some.inj (h1.symm.trans hc)
  subst hr
  obtain ⟨hSl, hfc, kC, hkC, hkind⟩ := hK.1 ci _ hc
  obtain ⟨cf, kf, fi, f, hi, hsl⟩ := hSl k hk
  have hlay := hts _ (q_in hci _ (u_in_lay hk))
  have hst := (u_facts hfc hkC (u_lays hts (q_in hci) hk) hi).1
  have hsame : ∀ x, s.fieldFound? (qT ci k).1 (qT ci k).2.1 (qT ci k).2.2.1 = some x → s.fieldFound? (qR ci) (qT ci k).2.1 (qT ci k).2.2.1 = some x := fun x h => by rw [q_dc ci hci k hk] at h; exact h
  have fin : ∀ (H' : Heap), H'[G.1 + a]? = some (cell.setSlot f.slot v) → H'.size = H.size → (∀ q : Nat, q ≠ G.1 + a → H'[q]? = H[q]?) → aW G N' H' := by
    intro H' e1 e2 e3
    rw [hsl] at e1
    refine ⟨?_, by rw [e2, hn', hW.2.1], by rw [hn']; exact hW.2.2⟩
    have := hW.1.set hD he (e := .inr (ci, ((List.range (qM ci)).map (fV G N ci a)).set k v)) ⟨_, hc, t_OB.to (V := updV (vp_V ((List.range (qM ci)).map (fV G N ci a))) k v) ⟨_, e1, q2, q3, t_set q4 hap hk v⟩ (fun j _ => vp_updV_set (by simpa using hk) v j)⟩ e3
    rw [fs_set hk hv ho, ← cE_obj (G := G) (hsh'.trans hsh), ws_set hn' ha rfl hoc] at this
    exact this
  rcases hfin with hfin | ⟨hfin, hin2, hown2⟩
  · unfold u_lay at hlay
    rw [if_neg (by rw [hfin]; decide)] at hlay
    have h6 := u_store hfc hkC hkind hlay hi (q_ty hci k hk) hn hfit
    refine W.putK hx hb (f := f) ⟨hown, hts _ hln, ⟨_, _, _, hsame _ hi⟩, hst⟩ (by rw [q2]; exact h6) q1 q3 (by rw [hsl]; exact k2_hasslot (q4 k hk)) rfl rfl hd fun H' e1 e2 e3 => ?_
    exact kk H' _ (fin H' e1 e2 e3) (hS.put e2 e3 (Nat.le_add_right _ _))
  · unfold u_lay at hlay
    rw [if_pos hfin] at hlay
    have hcf : m.cls = cf := by
      obtain ⟨_, _, c', _, _, _, -, -, hf', -, -, -, hown3, -⟩ := Cond.laysFinal_spec hlay
      have e1 : c' = cf := by have := hi.symm.trans hf'; simp at this; exact this.1.symm
      rw [q_dc ci hci k hk, hown2] at hown3
      rw [← e1]; exact Option.some.inj (hown.symm.trans hown3)
    have h6 := u_fits hfc hkC hkind (Or.inr hlay) hi (q_ty hci k hk) hn hfit
    refine W.putFinK hx hb hown (hts _ hln) (hsame _ hi) hst hcf hin2 (by rw [q2]; exact h6) q1 q3 (by rw [hsl]; exact k2_hasslot (q4 k hk)) rfl rfl hd fun H' e1 e2 e3 => ?_
    exact kk H' _ (fin H' e1 e2 e3) (hS.put e2 e3 (Nat.le_add_right _ _))
end Put
theorem wr_putI {ci k0 idx a : Nat} {x : Int32} (ha : a < nC N) (hsh : sH N a = (10 + ci, qM ci)) (hci : ci < 5) (hk : k0 < qM ci) (hln : Cond.fieldLink (am_y mid).cls idx (qR ci) (qT ci k0).2.1 (qT ci k0).2.2.1 ∈ am_big) (hft : am_ft ci k0 = 0)  (hd : decode (am_c mid) pc = .ok (.putfield idx, 3)) (k : wp X d mid bc bs (pc + 3) ls st (sI N a k0 x) post) : wp X d mid bc bs pc ls (.int x :: .ref a :: st) N post := by
  intro G p l e R s m args below meth c mc ms Q hC hK hR hret H locs cells slots lsr hW hS hc hs hl hn
  obtain ⟨hx, hb, hml, hown, hts, hnm, hdf, hdl⟩ := id hC
  have hg : rV G (.ref a) = .ref (G.1 + a) := by show Value.ref _ = _; rw [gA_lt ha hW.2.2]
  show W p l e R s m args below meth c H locs cells slots Q (F0 m pc lsr (rV G (.int x) :: rV G (.ref a) :: st.map (rV G)))
  rw [hg]
  have hq := q_f0 ci hci k0 hk hft
  refine am_put (N' := sI N a k0 x) hx hb hts hown hK.1 hW hS ha hsh hci hk hln (Or.inl hq.2) ?_ ?_ rfl rfl ?_ ?_ (fun j hj => cE_sI hj) hd (fun H1 locs1 hW1 hS1 => (k G p l e R s m args below meth c mc ms Q hC hK hR hret H1 locs1 cells slots lsr hW1 hS1 hc hs hl hn))
  · rw [hq.1]; rfl
  · rw [hq.1]; rfl
  · simp [fV, hft, sI, vI, up2, va_up, rV]
  · intro j hj
    simp only [fV, vI, vL, vR, sI, up2, va_up, if_true, if_neg hj]
theorem wr_putZ {ci k0 idx a : Nat} {x : Int32} (ha : a < nC N) (hsh : sH N a = (10 + ci, qM ci)) (hci : ci < 5) (hk : k0 < qM ci) (hln : Cond.fieldLink (am_y mid).cls idx (qR ci) (qT ci k0).2.1 (qT ci k0).2.2.1 ∈ am_big) (hft : am_ft ci k0 = 3) (hz : x = 0 ∨ x = 1) (hd : decode (am_c mid) pc = .ok (.putfield idx, 3)) (k : wp X d mid bc bs (pc + 3) ls st (sI N a k0 x) post) : wp X d mid bc bs pc ls (.int x :: .ref a :: st) N post := by
  intro G p l e R s m args below meth c mc ms Q hC hK hR hret H locs cells slots lsr hW hS hc hs hl hn
  obtain ⟨hx, hb, hml, hown, hts, hnm, hdf, hdl⟩ := id hC
  have hg : rV G (.ref a) = .ref (G.1 + a) := by show Value.ref _ = _; rw [gA_lt ha hW.2.2]
  show W p l e R s m args below meth c H locs cells slots Q (F0 m pc lsr (rV G (.int x) :: rV G (.ref a) :: st.map (rV G)))
  rw [hg]
  have hq := q_f3 ci hci k0 hk hft
  refine am_put (N' := sI N a k0 x) hx hb hts hown hK.1 hW hS ha hsh hci hk hln (Or.inl hq.2) ?_ ?_ rfl rfl ?_ ?_ (fun j hj => cE_sI hj) hd (fun H1 locs1 hW1 hS1 => (k G p l e R s m args below meth c mc ms Q hC hK hR hret H1 locs1 cells slots lsr hW1 hS1 hc hs hl hn))
  · rw [hq.1]; rcases hz with rfl | rfl <;> rfl
  · rw [hq.1]; show fits .boolean (.int x) = true; rcases hz with rfl | rfl <;> decide
  · simp [fV, hft, sI, vI, up2, va_up, rV]
  · intro j hj
    simp only [fV, vI, vL, vR, sI, up2, va_up, if_true, if_neg hj]
theorem wr_putL {ci k0 idx a : Nat} {x : Int64} (ha : a < nC N) (hsh : sH N a = (10 + ci, qM ci)) (hci : ci < 5) (hk : k0 < qM ci) (hln : Cond.fieldLink (am_y mid).cls idx (qR ci) (qT ci k0).2.1 (qT ci k0).2.2.1 ∈ am_big) (hft : am_ft ci k0 = 1)  (hd : decode (am_c mid) pc = .ok (.putfield idx, 3)) (k : wp X d mid bc bs (pc + 3) ls st (sL N a k0 x) post) : wp X d mid bc bs pc ls (.long x :: .ref a :: st) N post := by
  intro G p l e R s m args below meth c mc ms Q hC hK hR hret H locs cells slots lsr hW hS hc hs hl hn
  obtain ⟨hx, hb, hml, hown, hts, hnm, hdf, hdl⟩ := id hC
  have hg : rV G (.ref a) = .ref (G.1 + a) := by show Value.ref _ = _; rw [gA_lt ha hW.2.2]
  show W p l e R s m args below meth c H locs cells slots Q (F0 m pc lsr (rV G (.long x) :: rV G (.ref a) :: st.map (rV G)))
  rw [hg]
  have hq := q_f1 ci hci k0 hk hft
  refine am_put (N' := sL N a k0 x) hx hb hts hown hK.1 hW hS ha hsh hci hk hln (Or.inl hq.2) ?_ ?_ rfl rfl ?_ ?_ (fun j hj => cE_sL hj) hd (fun H1 locs1 hW1 hS1 => (k G p l e R s m args below meth c mc ms Q hC hK hR hret H1 locs1 cells slots lsr hW1 hS1 hc hs hl hn))
  · rw [hq.1]; rfl
  · rw [hq.1]; rfl
  · simp [fV, hft, sL, vL, up2, va_up, rV]
  · intro j hj
    simp only [fV, vI, vL, vR, sL, up2, va_up, if_true, if_neg hj]
theorem wr_putR {ci k0 idx a : Nat} {x : Nat} (ha : a < nC N) (hsh : sH N a = (10 + ci, qM ci)) (hci : ci < 5) (hk : k0 < qM ci) (hln : Cond.fieldLink (am_y mid).cls idx (qR ci) (qT ci k0).2.1 (qT ci k0).2.2.1 ∈ am_big) (hft : am_ft ci k0 = 2) (hx0 : x < nC N) (hini : (am_y mid).name = "<init>") (hoc : qR ci = (am_y mid).cls) (hd : decode (am_c mid) pc = .ok (.putfield idx, 3)) (k : wp X d mid bc bs (pc + 3) ls st (sR N a k0 (x + 1)) post) : wp X d mid bc bs pc ls (.ref x :: .ref a :: st) N post := by
  intro G p l e R s m args below meth c mc ms Q hC hK hR hret H locs cells slots lsr hW hS hc hs hl hn
  obtain ⟨hx, hb, hml, hown, hts, hnm, hdf, hdl⟩ := id hC
  have hg : rV G (.ref a) = .ref (G.1 + a) := by show Value.ref _ = _; rw [gA_lt ha hW.2.2]
  show W p l e R s m args below meth c H locs cells slots Q (F0 m pc lsr (rV G (.ref x) :: rV G (.ref a) :: st.map (rV G)))
  rw [hg]
  have hq := q_f2 ci hci k0 hk hft
  have hq1 : qY ci k0 = .array .int ∨ qY ci k0 = .object am_R0 ∨ qY ci k0 = .object am_R1 ∨ qY ci k0 = .array (.object am_R0) ∨ qY ci k0 = .array (.object am_R2) := by simpa using hq.1
  refine am_put (N' := sR N a k0 (x + 1)) hx hb hts hown hK.1 hW hS ha hsh hci hk hln (Or.inr ⟨hq.2, hnm hini, hoc⟩) ?_ ?_ rfl rfl ?_ ?_ (fun j hj => cE_sR hj) hd (fun H1 locs1 hW1 hS1 => (k G p l e R s m args below meth c mc ms Q hC hK hR hret H1 locs1 cells slots lsr hW1 hS1 hc hs hl hn))
  · rcases hq1 with h | h | h | h | h <;> rw [h] <;> rfl
  · rcases hq1 with h | h | h | h | h <;> rw [h] <;> rfl
  · have e : rV G (.ref x) = .ref (G.1 + x) := by show Value.ref _ = _; rw [gA_lt (N := N) hx0 hW.2.2]
    rw [e]
    simp [fV, hft, sR, vR, up2, va_up, rO, va_rf]
  · intro j hj
    simp only [fV, vI, vL, vR, sR, up2, va_up, if_true, if_neg hj]
theorem wr_iald {a n : Nat} {i : Int32} (ha : a < nC N) (hsh : sH N a = (0, n)) (hi : vp_in i n) (hd : decode (am_c mid) pc = .ok (.iaload, 1)) (k : wp X d mid bc bs (pc + 1) ls (.int (vI N a i.toNatClampNeg) :: st) N post) : wp X d mid bc bs pc ls (.int i :: .ref a :: st) N post := by
  intro G p l e R s m args below meth c mc ms Q hC hK hR hret H locs cells slots lsr hW hS hc hs hl hn
  obtain ⟨hx, hb, hml, hown, hts, hnm, hdf, hdl⟩ := id hC
  have he := ws_at (G := G) ha
  rw [cE_int hsh] at he
  have hg : rV G (.ref a) = .ref (G.1 + a) := by show Value.ref _ = _; rw [gA_lt ha hW.2.2]
  show W p l e R s m args below meth c H locs cells slots Q (F0 m pc lsr (.int i :: rV G (.ref a) :: st.map (rV G)))
  rw [hg]
  exact va_iald hx hb hK.1 hW.1 a 0 he rfl hi hd (k G p l e R s m args below meth c mc ms Q hC hK hR hret H locs cells slots lsr hW hS hc hs hl hn)
theorem wr_iast {a n : Nat} {i x : Int32} (ha : a < nC N) (hsh : sH N a = (0, n)) (hi : vp_in i n) (hd : decode (am_c mid) pc = .ok (.iastore, 1)) (k : wp X d mid bc bs (pc + 1) ls st (sI N a i.toNatClampNeg x) post) : wp X d mid bc bs pc ls (.int x :: .int i :: .ref a :: st) N post := by
  intro G p l e R s m args below meth c mc ms Q hC hK hR hret H locs cells slots lsr hW hS hc hs hl hn
  obtain ⟨hx, hb, hml, hown, hts, hnm, hdf, hdl⟩ := id hC
  have he := ws_at (G := G) ha
  rw [cE_int hsh] at he
  have hg : rV G (.ref a) = .ref (G.1 + a) := by show Value.ref _ = _; rw [gA_lt ha hW.2.2]
  show W p l e R s m args below meth c H locs cells slots Q (F0 m pc lsr (.int x :: .int i :: rV G (.ref a) :: st.map (rV G)))
  rw [hg]
  refine W.iast hx hb (hW.1 a _ he) ((hK.1.2 0 _ rfl).1 n (fun j => .int (vI N a j))) (fun q => by cases q) (by show ¬ (i < 0 ∨ (arrV _ _ _).slots.size ≤ _); rw [arrV_size]; exact hi) rfl rfl hd fun H1 e1 z oq => ?_
  have hS1 := hS.put (k := i.toNatClampNeg) z oq (show gB G (G.1 + a) from Nat.le_add_right _ _)
  have h1 := hW.1.set wsD he (e := .inl (gI G, n, .inl (upd (vI N a) i.toNatClampNeg x))) (H1 := H1) (by
    show H1[G.1 + a]? = some (vp_cell _ _)
    rw [e1]
    exact congrArg some ((congrArg (fun z => Cell.setSlot z i.toNatClampNeg (.int x)) (arrCell_eq (gI G) n (vI N a)).symm).trans (arr_store (gI G) n i.toNatClampNeg (vI N a) x))) oq
  rw [ws_set (G := G) (N := N) (N' := sI N a i.toNatClampNeg x) rfl ha (by rw [cE_int (N := sI N a i.toNatClampNeg x) (a := a) hsh]; simp only [vI, sI, up2, if_true]; rfl) (fun j hj => cE_sI hj)] at h1
  exact (k G p l e R s m args below meth c mc ms Q hC hK hR hret H1 _ cells slots lsr ⟨h1, by rw [z]; exact hW.2.1, hW.2.2⟩ hS1 hc hs hl hn)
theorem wr_aald {a n kd : Nat} {i : Int32} (ha : a < nC N) (hsh : sH N a = (kd, n)) (hkd : kd = 1 ∨ kd = 2) (hi : vp_in i n) (h0 : vR N a i.toNatClampNeg ≠ 0) (h1 : vR N a i.toNatClampNeg ≤ nC N) (hd : decode (am_c mid) pc = .ok (.aaload, 1)) (k : wp X d mid bc bs (pc + 1) ls (.ref (vR N a i.toNatClampNeg - 1) :: st) N post) : wp X d mid bc bs pc ls (.int i :: .ref a :: st) N post := by
  intro G p l e R s m args below meth c mc ms Q hC hK hR hret H locs cells slots lsr hW hS hc hs hl hn
  obtain ⟨hx, hb, hml, hown, hts, hnm, hdf, hdl⟩ := id hC
  have he := ws_at (G := G) ha
  have hg : rV G (.ref a) = .ref (G.1 + a) := by show Value.ref _ = _; rw [gA_lt ha hW.2.2]
  have ee : va_rf (rO G (vR N a i.toNatClampNeg)) = rV G (.ref (vR N a i.toNatClampNeg - 1)) := by
    show _ = Value.ref _
    rw [gA_lt (N := N) (by omega) hW.2.2]
    simp [rO, h0, va_rf]
  have kk := (k G p l e R s m args below meth c mc ms Q hC hK hR hret H locs cells slots lsr hW hS hc hs hl hn)
  rw [List.map_cons, ← ee] at kk
  show W p l e R s m args below meth c H locs cells slots Q (F0 m pc lsr (.int i :: rV G (.ref a) :: st.map (rV G)))
  rw [hg]
  rcases hkd with rfl | rfl
  · rw [cE_row hsh] at he
    exact va_aldq hx hb hK.1 hW.1 a 1 he rfl hi hd kk
  · rw [cE_clo hsh] at he
    exact va_aldq hx hb hK.1 hW.1 a 2 he rfl hi hd kk
theorem wr_alen {a n : Nat} (ha : a < nC N) (hsh : sH N a = (0, n)) (hd : decode (am_c mid) pc = .ok (.arraylength, 1)) (k : wp X d mid bc bs (pc + 1) ls (.int (Int32.ofNat n) :: st) N post) : wp X d mid bc bs pc ls (.ref a :: st) N post := by
  intro G p l e R s m args below meth c mc ms Q hC hK hR hret H locs cells slots lsr hW hS hc hs hl hn
  obtain ⟨hx, hb, hml, hown, hts, hnm, hdf, hdl⟩ := id hC
  have he := ws_at (G := G) ha
  rw [cE_int hsh] at he
  have hg : rV G (.ref a) = .ref (G.1 + a) := by show Value.ref _ = _; rw [gA_lt ha hW.2.2]
  show W p l e R s m args below meth c H locs cells slots Q (F0 m pc lsr (rV G (.ref a) :: st.map (rV G)))
  rw [hg]
  exact va_alen hx hb hK.1 hW.1 a 0 he rfl rfl hd (k G p l e R s m args below meth c mc ms Q hC hK hR hret H locs cells slots lsr hW hS hc hs hl hn)
theorem wr_alenR {a n kd : Nat} (ha : a < nC N) (hsh : sH N a = (kd, n)) (hkd : kd = 1 ∨ kd = 2) (hd : decode (am_c mid) pc = .ok (.arraylength, 1)) (k : wp X d mid bc bs (pc + 1) ls (.int (Int32.ofNat n) :: st) N post) : wp X d mid bc bs pc ls (.ref a :: st) N post := by
  intro G p l e R s m args below meth c mc ms Q hC hK hR hret H locs cells slots lsr hW hS hc hs hl hn
  obtain ⟨hx, hb, hml, hown, hts, hnm, hdf, hdl⟩ := id hC
  have he := ws_at (G := G) ha
  have hg : rV G (.ref a) = .ref (G.1 + a) := by show Value.ref _ = _; rw [gA_lt ha hW.2.2]
  show W p l e R s m args below meth c H locs cells slots Q (F0 m pc lsr (rV G (.ref a) :: st.map (rV G)))
  rw [hg]
  rcases hkd with rfl | rfl
  · rw [cE_row hsh] at he
    exact va_alen hx hb hK.1 hW.1 a 1 he rfl rfl hd (k G p l e R s m args below meth c mc ms Q hC hK hR hret H locs cells slots lsr hW hS hc hs hl hn)
  · rw [cE_clo hsh] at he
    exact va_alen hx hb hK.1 hW.1 a 2 he rfl rfl hd (k G p l e R s m args below meth c mc ms Q hC hK hR hret H locs cells slots lsr hW hS hc hs hl hn)
/-- what stood before: the script, LETTERS, PARENTS -/
theorem wr_sld {i : Int32} (hi : vp_in i X.1) (hd : decode (am_c mid) pc = .ok (.iaload, 1)) (k : wp X d mid bc bs (pc + 1) ls (.int (X.2 i.toNatClampNeg) :: st) N post) : wp X d mid bc bs pc ls (.int i :: .ref 1000000 :: st) N post := by
  intro G p l e R s m args below meth c mc ms Q hC hK hR hret H locs cells slots lsr hW hS hc hs hl hn
  obtain ⟨hx, hb, hml, hown, hts, hnm, hdf, hdl⟩ := id hC
  obtain ⟨-, -, -, -, -, hX, hb1, hb2⟩ := id hK
  exact va_sld (b := G.2.1) hx hb hX (by omega) (show ¬ gB G G.2.1 from Nat.not_le.mpr hb1) hS hi hd (k G p l e R s m args below meth c mc ms Q hC hK hR hret H locs cells slots lsr hW hS hc hs hl hn)
theorem wr_slen (hd : decode (am_c mid) pc = .ok (.arraylength, 1)) (k : wp X d mid bc bs (pc + 1) ls (.int (Int32.ofNat X.1) :: st) N post) : wp X d mid bc bs pc ls (.ref 1000000 :: st) N post := by
  intro G p l e R s m args below meth c mc ms Q hC hK hR hret H locs cells slots lsr hW hS hc hs hl hn
  obtain ⟨hx, hb, hml, hown, hts, hnm, hdf, hdl⟩ := id hC
  obtain ⟨-, -, -, -, -, hX, hb1, hb2⟩ := id hK
  exact va_slen (b := G.2.1) hx hb hX (by omega) (show ¬ gB G G.2.1 from Nat.not_le.mpr hb1) hS hd (k G p l e R s m args below meth c mc ms Q hC hK hR hret H locs cells slots lsr hW hS hc hs hl hn)
theorem wr_tc {i : Int32} (hi : vp_in i 6) (hd : decode (am_c mid) pc = .ok (.caload, 1)) (k : wp X d mid bc bs (pc + 1) ls (.int (am_let i.toNatClampNeg) :: st) N post) : wp X d mid bc bs pc ls (.int i :: .ref 1000001 :: st) N post := by
  intro G p l e R s m args below meth c mc ms Q hC hK hR hret H locs cells slots lsr hW hS hc hs hl hn
  obtain ⟨hx, hb, hml, hown, hts, hnm, hdf, hdl⟩ := id hC
  exact va_tc hx hb hK.2.2.2.2.1.2.2.1 hS hi rfl hd (k G p l e R s m args below meth c mc ms Q hC hK hR hret H locs cells slots lsr hW hS hc hs hl hn)
theorem wr_ti {i : Int32} (hi : vp_in i 6) (hd : decode (am_c mid) pc = .ok (.iaload, 1)) (k : wp X d mid bc bs (pc + 1) ls (.int (am_par i.toNatClampNeg) :: st) N post) : wp X d mid bc bs pc ls (.int i :: .ref 1000002 :: st) N post := by
  intro G p l e R s m args below meth c mc ms Q hC hK hR hret H locs cells slots lsr hW hS hc hs hl hn
  obtain ⟨hx, hb, hml, hown, hts, hnm, hdf, hdl⟩ := id hC
  exact va_ti hx hb hK.2.2.2.2.1.2.2.2 hS hi rfl hd (k G p l e R s m args below meth c mc ms Q hC hK hR hret H locs cells slots lsr hW hS hc hs hl hn)
theorem wr_gLet (hm : (am_y mid).cls = "SewnAhead$Reader") (hd : decode (am_c mid) pc = .ok (.getstatic 62, 3)) (k : wp X d mid bc bs (pc + 3) ls (.ref 1000001 :: st) N post) : wp X d mid bc bs pc ls st N post := by
  intro G p l e R s m args below meth c mc ms Q hC hK hR hret H locs cells slots lsr hW hS hc hs hl hn
  obtain ⟨hx, hb, hml, hown, hts, hnm, hdf, hdl⟩ := id hC
  rw [hm] at hown
  exact va_getsN hx hb hK.2.2.2.2.1.1 hS hown (va_Nw.use rfl hK.2.2.1.1) (fun x h => h) hd (k G p l e R s m args below meth c mc ms Q hC hK hR hret H locs cells slots lsr hW hS hc hs hl hn)
theorem wr_gPar (hm : (am_y mid).cls = "SewnAhead$Cloth") (hd : decode (am_c mid) pc = .ok (.getstatic 91, 3)) (k : wp X d mid bc bs (pc + 3) ls (.ref 1000002 :: st) N post) : wp X d mid bc bs pc ls st N post := by
  intro G p l e R s m args below meth c mc ms Q hC hK hR hret H locs cells slots lsr hW hS hc hs hl hn
  obtain ⟨hx, hb, hml, hown, hts, hnm, hdf, hdl⟩ := id hC
  rw [hm] at hown
  exact va_getsN hx hb hK.2.2.2.2.1.2.1 hS hown (va_Nw.use rfl hK.2.2.1.2) (fun x h => h) hd (k G p l e R s m args below meth c mc ms Q hC hK hR hret H locs cells slots lsr hW hS hc hs hl hn)
end R2
