section R4
variable {X : aX} {d mid bc bs pc : Nat} {ls : aL} {st : List Value} {N : aN} {post : aO}
theorem cE_sN {G : aG} {kd len j : Nat} (h : j ≠ nC N) : cE G (sN N kd len) j = cE G N j := cE_cg (if_neg h) (if_neg h) (if_neg h) (if_neg h)
theorem ws_sN {G : aG} {kd len : Nat} : wsL G (sN N kd len) = wsL G N ++ [(G.1 + nC N, cE G (sN N kd len) (nC N))] := by
  have h : ∀ i ∈ List.range (nC N), (G.1 + i, cE G (sN N kd len) i) = (G.1 + i, cE G N i) := fun i hi => by
    rw [cE_sN (Nat.ne_of_lt (List.mem_range.mp hi))]
  show (List.range (nC N + 1)).map _ = _
  rw [List.range_succ, List.map_append, List.map_congr_left h]
  rfl
theorem sN_sh {kd len : Nat} : sH (sN N kd len) (nC N) = (kd, len) := by simp only [sH, sN, up1, if_true]
theorem q_fa : ∀ ci, ci < 5 → ∀ k, k < qM ci → am_ft ci k = 0 ∨ am_ft ci k = 1 ∨ am_ft ci k = 2 ∨ am_ft ci k = 3 := by decide +kernel
theorem q_de {G : aG} {ci k len : Nat} (hci : ci < 5) (hk : k < qM ci) : defaultValue (qY ci k) = fV G (sN N (10 + ci) len) ci (nC N) k := by
  rcases q_fa ci hci k hk with h | h | h | h
  · rw [(q_f0 ci hci k hk h).1]; simp only [fV, h, vI, sN, up1, if_true]; rfl
  · rw [(q_f1 ci hci k hk h).1]; simp only [fV, h, vL, sN, up1, if_true]; rfl
  · have hq1 : qY ci k = .array .int ∨ qY ci k = .object am_R0 ∨ qY ci k = .object am_R1 ∨ qY ci k = .array (.object am_R0) ∨ qY ci k = .array (.object am_R2) := by simpa using (q_f2 ci hci k hk h).1
    have e : fV G (sN N (10 + ci) len) ci (nC N) k = .null := by simp only [fV, h, vR, sN, up1, if_true]; rfl
    rw [e]
    rcases hq1 with h | h | h | h | h <;> rw [h] <;> rfl
  · rw [(q_f3 ci hci k hk h).1]; simp only [fV, h, vI, sN, up1, if_true]; rfl
theorem aW_push {G : aG} {H H1 : Heap} {kd len : Nat} (hW : aW G N H) (hn : nC N < 1000) (z : H1.size = G.1 + nC N + 1) (o1 : ∀ q, q < G.1 + nC N → H1[q]? = H[q]?) (he : va_at (gD G) am_cl (G.1 + nC N, cE G (sN N kd len) (nC N)) H1) : aW G (sN N kd len) H1 := by
  refine ⟨?_, by rw [z]; rfl, by show nC N + 1 ≤ 1000; omega⟩
  rw [ws_sN]
  refine va_P.app (hW.1.kept fun k q hk => ?_) (fun k q hk => ?_)
  · have := (hW.1 k q hk).lt
    exact o1 q.1 (by rw [hW.2.1] at this; exact this)
  · have hz : k < 1 := (List.getElem?_eq_some_iff.mp hk).1
    rw [show k = 0 by omega] at hk
    cases hk
    exact he
theorem vaS_push {G : aG} {s : State} {H H1 : Heap} {locs : List Loc} (hW : aW G N H) (hS : va_S (gB G) s.heap H locs) (z : H1.size = G.1 + nC N + 1) (o1 : ∀ q, q < G.1 + nC N → H1[q]? = H[q]?) : va_S (gB G) s.heap H1 locs :=
  ⟨Nat.le_trans hS.1 (by rw [z, hW.2.1]; omega), fun q h1 h2 => (o1 q (by have := Nat.lt_of_lt_of_le h1 hS.1; rw [hW.2.1] at this; exact this)).trans (hS.2.1 q h1 h2), hS.2.2⟩
theorem wr_new {ci idx b1 b2 : Nat} (hci : ci < 5) (hcl : Cond.classLink (am_y mid).cls idx (qR ci) ∈ am_big) (hins : Cond.instantiable (qR ci) (qM ci) ∈ am_big) (hini : Cond.initialized (qR ci) ∈ am_big) (hb1 : bc = b1 + 1) (hb2 : bs = b2 + qM ci) (hN : nC N < 1000) (hd : decode (am_c mid) pc = .ok (.new idx, 3)) (k : wp X d mid b1 b2 (pc + 3) ls (.ref (nC N) :: st) (sN N (10 + ci) (qM ci)) post) : wp X d mid bc bs pc ls st N post := by
  intro G p l e R s m args below meth c mc ms Q hC hK hR hret H locs cells slots lsr hW hS hc hs hl hn
  obtain ⟨hx, hb, hml, hown, hts, hnm, hdf, hdl⟩ := id hC
  have hKn := hK.1.1 ci _ (q_cl hci)
  have hg : rV G (.ref (nC N)) = .ref (G.1 + nC N) := by show Value.ref _ = _; rw [gA_lt (N := sN N (10 + ci) (qM ci)) (show nC N < nC N + 1 by omega) (show nC N + 1 ≤ 1000 by omega)]
  refine W.newcK hx hb hown (hts _ hcl) (hts _ hins) (hts _ hini) rfl hd (by omega) (by omega) hKn.2.1 hW.2.1 fun H1 kC hkC e1 z1 o1 => ?_
  have kk := (k G p l e R s m args below meth c mc ms Q hC hK hR hret H1 locs (cells + 1) (slots + qM ci) lsr (aW_push hW hN z1 o1 (by rw [cE_obj sN_sh]; exact ⟨_, q_cl hci, (u_born (qY ci) hts (q_in hci) hKn hkC e1 (q_ty hci)).to (fun j hj => by rw [q_de (N := N) (G := G) (len := qM ci) hci hj]; simp [vp_V, hj])⟩)) (vaS_push hW hS z1 o1) (by omega) (by omega) hl hn)
  rw [List.map_cons, hg] at kk
  exact kk
theorem wr_newI {len b1 b2 : Nat} {n : Int32} (h0 : ¬ n < 0) (hlen : n.toNatClampNeg = len) (hle : len ≤ 100000) (hac : Cond.arrayClass .int ∈ am_big) (hb1 : bc = b1 + 1) (hb2 : bs = b2 + len) (hN : nC N < 1000) (hd : decode (am_c mid) pc = .ok (.newarray .int, 2)) (k : wp X d mid b1 b2 (pc + 2) ls (.ref (nC N) :: st) (sN N 0 len) post) : wp X d mid bc bs pc ls (.int n :: st) N post := by
  intro G p l e R s m args below meth c mc ms Q hC hK hR hret H locs cells slots lsr hW hS hc hs hl hn
  obtain ⟨hx, hb, hml, hown, hts, hnm, hdf, hdl⟩ := id hC
  have hg : rV G (.ref (nC N)) = .ref (G.1 + nC N) := by show Value.ref _ = _; rw [gA_lt (N := sN N 0 len) (show nC N < nC N + 1 by omega) (show nC N + 1 ≤ 1000 by omega)]
  refine va_newaK (atype := .int) hx hb (hts _ hac) rfl hd rfl h0 hlen (by show len * 4 ≤ _; omega) (by omega) (by omega) hW.2.1 fun H1 cA e1 z1 o1 hAr hNm => ?_
  have hcA : cA = gI G := Option.some.inj (hNm.symm.trans (hK.1.2 0 _ rfl).2)
  subst hcA
  have kk := (k G p l e R s m args below meth c mc ms Q hC hK hR hret H1 locs (cells + 1) (slots + len) lsr (aW_push hW hN z1 o1 (by rw [cE_int sN_sh]; show H1[_]? = some (vp_cell _ _); rw [vp_cell_i]; simp only [vI, sN, up1, if_true]; exact e1)) (vaS_push hW hS z1 o1) (by omega) (by omega) hl hn)
  rw [List.map_cons, hg] at kk
  exact kk
theorem wr_newR {len b1 b2 idx kd : Nat} {C : String} {n : Int32} (hkd : (kd = 1 ∧ C = am_R2) ∨ (kd = 2 ∧ C = am_R0)) (h0 : ¬ n < 0) (hlen : n.toNatClampNeg = len) (hle : len ≤ 100000) (hcl : Cond.classLink (am_y mid).cls idx C ∈ am_big) (hb1 : bc = b1 + 1) (hb2 : bs = b2 + len) (hN : nC N < 1000) (hd : decode (am_c mid) pc = .ok (.anewarray idx, 3)) (k : wp X d mid b1 b2 (pc + 3) ls (.ref (nC N) :: st) (sN N kd len) post) : wp X d mid bc bs pc ls (.int n :: st) N post := by
  intro G p l e R s m args below meth c mc ms Q hC hK hR hret H locs cells slots lsr hW hS hc hs hl hn
  obtain ⟨hx, hb, hml, hown, hts, hnm, hdf, hdl⟩ := id hC
  have hg : rV G (.ref (nC N)) = .ref (G.1 + nC N) := by show Value.ref _ = _; rw [gA_lt (N := sN N kd len) (show nC N < nC N + 1 by omega) (show nC N + 1 ≤ 1000 by omega)]
  have hao : va_AO C s := by rcases hkd with ⟨-, rfl⟩ | ⟨-, rfl⟩; exact hK.2.2.2.1.1; exact hK.2.2.2.1.2
  subst hlen
  refine W.anew hx hb hown (hts _ hcl) (va_AO.use hao) rfl hd rfl h0 (by omega) (by omega) (by omega) fun cA kA comp f1 f2 f3 f4 => ?_
  generalize hH1 : H.push ({ cls := cA, slots := Array.replicate n.toNatClampNeg .null, vm := .none } : Cell) = H1
  have z1 : H1.size = G.1 + nC N + 1 := by rw [← hH1, Array.size_push, hW.2.1]
  have e1 : H1[G.1 + nC N]? = some (arrV cA n.toNatClampNeg (fun _ => .null)) := by rw [← hH1, ← hW.2.1, Array.getElem?_push_size, ← arrV_new]
  have o1 : ∀ q : Nat, q < G.1 + nC N → H1[q]? = H[q]? := fun q hq => by rw [← hH1, Array.getElem?_push, if_neg (by rw [hW.2.1]; omega)]
  have hat : va_at (gD G) am_cl (G.1 + nC N, cE G (sN N kd n.toNatClampNeg) (nC N)) H1 := by
    rcases hkd with ⟨rfl, rfl⟩ | ⟨rfl, rfl⟩
    · obtain ⟨-, -, -, -, -, g4⟩ := (hK.1.2 1 _ rfl).2
      have hcA : cA = gR G := Option.some.inj (f1.symm.trans g4)
      subst hcA
      rw [cE_row sN_sh]
      show H1[_]? = some (vp_cell _ _)
      rw [vp_cell_q]; simp only [vR, sN, up1, if_true]; exact e1
    · obtain ⟨-, -, -, -, -, g4⟩ := (hK.1.2 2 _ rfl).2
      have hcA : cA = gC G := Option.some.inj (f1.symm.trans g4)
      subst hcA
      rw [cE_clo sN_sh]
      show H1[_]? = some (vp_cell _ _)
      rw [vp_cell_q]; simp only [vR, sN, up1, if_true]; exact e1
  have kk := (k G p l e R s m args below meth c mc ms Q hC hK hR hret H1 locs (cells + 1) (slots + n.toNatClampNeg) lsr (aW_push hW hN z1 o1 hat) (vaS_push hW hS z1 o1) (by omega) (by omega) hl hn)
  rw [List.map_cons, hg] at kk
  rw [hW.2.1]
  exact kk
theorem wr_aast {a v n kd ci : Nat} {i : Int32} (ha : a < nC N) (hv : v < nC N) (hsh : sH N a = (kd, n)) (hsv : sH N v = (10 + ci, qM ci)) (hkd : (kd = 1 ∧ ci = 2) ∨ (kd = 2 ∧ ci = 0)) (hi : vp_in i n) (hd : decode (am_c mid) pc = .ok (.aastore, 1)) (k : wp X d mid bc bs (pc + 1) ls st (sR N a i.toNatClampNeg (v + 1)) post) : wp X d mid bc bs pc ls (.ref v :: .int i :: .ref a :: st) N post := by
  intro G p l e R s m args below meth c mc ms Q hC hK hR hret H locs cells slots lsr hW hS hc hs hl hn
  obtain ⟨hx, hb, hml, hown, hts, hnm, hdf, hdl⟩ := id hC
  have hg : rV G (.ref a) = .ref (G.1 + a) := by show Value.ref _ = _; rw [gA_lt ha hW.2.2]
  have hgv : rV G (.ref v) = .ref (G.1 + v) := by show Value.ref _ = _; rw [gA_lt hv hW.2.2]
  show W p l e R s m args below meth c H locs cells slots Q (F0 m pc lsr (rV G (.ref v) :: .int i :: rV G (.ref a) :: st.map (rV G)))
  rw [hg, hgv]
  have hci : ci < 5 := by omega
  have hcq := q_cl hci
  have he := ws_at (G := G) ha
  have hev := ws_at (G := G) hv
  rw [cE_obj hsv] at hev
  have hlt : i.toNatClampNeg < n := Nat.not_le.mp fun q => hi (Or.inr q)
  have h0 : ¬ i < 0 := fun q => hi (Or.inl q)
  obtain ⟨r', hr', cellV, g1, g2, g3, -⟩ := hW.1 v _ hev
  have hcls := (hK.1.1 ci _ hcq).2
  have hcell : ∃ (cA : ClassId) (t0 : Nat), (aT G)[t0]? = some (cA, .object (qR ci)) ∧ cE G N a = .inl (cA, n, .inr (.inr (.inr (.inr (fun j => rO G (vR N a j)))))) ∧ cE G (sR N a i.toNatClampNeg (v + 1)) a = .inl (cA, n, .inr (.inr (.inr (.inr (fun j => rO G (va_up (vR N a) i.toNatClampNeg (v + 1) j)))))) := by
    rcases hkd with ⟨rfl, rfl⟩ | ⟨rfl, rfl⟩
    · exact ⟨gR G, 1, rfl, cE_row hsh, by rw [cE_row (N := sR N a i.toNatClampNeg (v + 1)) hsh]; simp only [vR, sR, up2, if_true]⟩
    · exact ⟨gC G, 2, rfl, cE_clo hsh, by rw [cE_clo (N := sR N a i.toNatClampNeg (v + 1)) hsh]; simp only [vR, sR, up2, if_true]⟩
  obtain ⟨cA, t0, ht, hcE, hcE2⟩ := hcell
  rw [hcE] at he
  obtain ⟨kA, comp, k1, k2, k3, -⟩ := (hK.1.2 t0 _ ht).2
  have hcomp : comp = (gD G).1 ci := Option.some.inj (k3.symm.trans hcls.1)
  subst hcomp
  obtain ⟨kC, hkC, -⟩ := id hcls.2
  refine W.aast hx hb (hW.1 a _ he) (fun q h => by cases h) (fun h => by cases h) k1 k2 rfl hkC ⟨h0, by show _ < (arrV _ _ _).slots.size; rw [arrV_size]; exact hlt⟩ g1 (fun q h => by rw [g3] at h; cases h) (by rw [g2]; exact hkC) (by rw [g2]; exact va_assign hcls) rfl rfl hd fun H1 e1 z oq => ?_
  have hS1 := hS.put (k := i.toNatClampNeg) z oq (show gB G (G.1 + a) from Nat.le_add_right _ _)
  have h1 := hW.1.set wsD he (e := cE G (sR N a i.toNatClampNeg (v + 1)) a) (H1 := H1) (by
    rw [hcE2]
    show H1[G.1 + a]? = some (vp_cell _ _)
    rw [e1, vp_cell_q, vp_cell_q, arrV_store]
    congr 2
    funext q
    by_cases hq : q = i.toNatClampNeg
    · subst hq
      simp [updV, va_up, va_rf, rO]
    · simp [updV, va_up, hq]) oq
  rw [ws_set (G := G) (N := N) (N' := sR N a i.toNatClampNeg (v + 1)) rfl ha rfl (fun j hj => cE_sR hj)] at h1
  exact (k G p l e R s m args below meth c mc ms Q hC hK hR hret H1 _ cells slots lsr ⟨h1, by rw [z]; exact hW.2.1, hW.2.2⟩ hS1 hc hs hl hn)
theorem wr_obj {idx a : Nat} (hli : Cond.methodLink (am_y mid).cls idx objectInit ∈ am_big) (hin : Cond.instanceMethod objectInit ∈ am_big) (hco : Cond.code objectInit ⟨#[0xb1]⟩ 1 none ∈ am_big) (hst : (st.map fun v => v.category).sum ≤ 8) (hd : decode (am_c mid) pc = .ok (.invokespecial idx, 3)) (k : wp X (d + 1) mid bc bs (pc + 3) ls st N post) : wp X (d + 1) mid bc bs pc ls (.ref a :: st) N post := by
  intro G p l e R s m args below meth c mc ms Q hC hK hR hret H locs cells slots lsr hW hS hc hs hl hn
  obtain ⟨hx, hb, hml, hown, hts, hnm, hdf, hdl⟩ := id hC
  refine W.objInit hx hb hown (hts _ hli) (hts _ hin) (hts _ hco) rfl (hl.1.trans hml.symm) rfl hd (by omega) ?_ (k G p l e R s m args below meth c mc ms Q hC hK hR hret H locs cells slots lsr hW hS hc hs hl hn)
  have : ((st.map (rV G)).map fun v => v.category).sum ≤ 8 := by
    rw [List.map_map, show ((fun v => Value.category v) ∘ rV G) = fun v => v.category from funext fun v => rV_cat G v]
    exact hst
  show 2 * 0 + _ + 12 ≤ _
  omega
theorem nfw_ac : nativeFrameWords "java/lang/System" "arraycopy" 5 ≤ 20 := by decide +kernel
theorem wr_copy {idx a0 a n0 n1 : Nat} {sp dp n : Int32} (hli : Cond.methodLink (am_y mid).cls idx arraycopyName ∈ am_big) (hna : Cond.native arraycopyName ∈ am_big) (hsa : Cond.static arraycopyName ∈ am_big) (hini : Cond.initialized "java/lang/System" ∈ am_big) (hst : (st.map fun v => v.category).sum ≤ 8) (ha0 : a0 < nC N) (ha : a < nC N) (hs0 : sH N a0 = (0, n0)) (hs1 : sH N a = (0, n1))
    (h1 : ¬ sp < 0) (h2 : ¬ dp < 0) (h3 : ¬ n < 0) (h4 : sp.toNatClampNeg + n.toNatClampNeg ≤ n0) (h5 : dp.toNatClampNeg + n.toNatClampNeg ≤ n1) (hd : decode (am_c mid) pc = .ok (.invokestatic idx, 3)) (k : wp X (d + 1) mid bc bs (pc + 3) ls st (sA N a (va_cpy (vI N a0) (vI N a) sp.toNatClampNeg dp.toNatClampNeg n.toNatClampNeg)) post) : wp X (d + 1) mid bc bs pc ls (.int n :: .int dp :: .ref a :: .int sp :: .ref a0 :: st) N post := by
  intro G p l e R s m args below meth c mc ms Q hC hK hR hret H locs cells slots lsr hW hS hc hs hl hn
  obtain ⟨hx, hb, hml, hown, hts, hnm, hdf, hdl⟩ := id hC
  have hg : rV G (.ref a) = .ref (G.1 + a) := by show Value.ref _ = _; rw [gA_lt ha hW.2.2]
  have hg0 : rV G (.ref a0) = .ref (G.1 + a0) := by show Value.ref _ = _; rw [gA_lt ha0 hW.2.2]
  show W p l e R s m args below meth c H locs cells slots Q (F0 m pc lsr (.int n :: .int dp :: rV G (.ref a) :: .int sp :: rV G (.ref a0) :: st.map (rV G)))
  rw [hg, hg0]
  have e0 := ws_at (G := G) ha0
  rw [cE_int hs0] at e0
  have e1 := ws_at (G := G) ha
  rw [cE_int hs1] at e1
  have nn : ∀ z : Int32, ¬ z < 0 → z.toInt = (z.toNatClampNeg : Int) := by
    intro z hz
    have : (0 : Int) ≤ z.toInt := by
      have := Int32.not_lt.mp hz
      simpa using Int32.le_iff_toInt_le.mp this
    show z.toInt = ((z.toInt.toNat : Nat) : Int)
    omega
  have hsum : ((st.map (rV G)).map fun v => v.category).sum ≤ 8 := by
    rw [List.map_map, show ((fun v => Value.category v) ∘ rV G) = fun v => v.category from funext fun v => rV_cat G v]
    exact hst
  have hnf := nfw_ac
  have hc0 : H[G.1 + a0]? = some (vp_cell (gI G) (n0, .inl (vI N a0))) := hW.1 a0 _ e0
  have hc1 : H[G.1 + a]? = some (vp_cell (gI G) (n1, .inl (vI N a))) := hW.1 a _ e1
  intro T hT Y
  obtain ⟨-, k0, hk0, cm0, hkk0⟩ := (hK.1.2 0 _ rfl).1 n0 (fun j => .int (vI N a0 j))
  obtain ⟨-, k1, hk1, cm1, hkk1⟩ := (hK.1.2 0 _ rfl).1 n1 (fun j => .int (vI N a j))
  obtain ⟨vm', Y', step⟩ := Y.arraycopy hx hown (hts _ hli) (hts _ hna) (hts _ hsa) (hts _ hini) (src := G.1 + a0) (dst := G.1 + a) (cs := vp_cell (gI G) (n0, .inl (vI N a0))) (cd := vp_cell (gI G) (n1, .inl (vI N a))) (srcPos := sp) (destPos := dp) (n := n) (by rw [hT]; exact hc0) (by rw [hT]; exact hc1)
    (fun _ h => by cases h) (fun _ h => by cases h) (fun h => by cases h) (fun h => by cases h) hk0 hk1 hkk0 hkk1 (by simp [refKind]) h1 h2 h3
    (by rw [nn sp h1, nn n h3]; show ¬ _ > ((arrV (gI G) n0 (fun j => .int (vI N a0 j))).slots.size : Int); rw [arrV_size]; omega)
    (by rw [nn dp h2, nn n h3]; show ¬ _ > ((arrV (gI G) n1 (fun j => .int (vI N a j))).slots.size : Int); rw [arrV_size]; omega)
    (fun vm₁ _ i hi => by
      have e : (vp_cell (gI G) (n0, .inl (vI N a0))).slots.getD (sp.toNatClampNeg + i) .null = .int (vI N a0 (sp.toNatClampNeg + i)) := by
        show (arrV (gI G) n0 (fun j => .int (vI N a0 j))).slots.getD _ _ = _
        rw [Array.getD_eq_getD_getElem?, arrV_read _ _ (by omega)]
        rfl
      refine ⟨?_, ?_⟩
      · rw [e]
        rfl
      · rw [e]
        exact trivial)
    (g := F0 m pc lsr (.int n :: .int dp :: .ref (G.1 + a) :: .int sp :: .ref (G.1 + a0) :: st.map (rV G))) rfl (hl.1.trans hml.symm) (rest := st.map (rV G)) rfl (by rw [hb]; exact hd) (by omega) (by show 2 * 0 + _ + _ ≤ _; omega)
  have ee : copied (vp_cell (gI G) (n0, .inl (vI N a0))) (vp_cell (gI G) (n1, .inl (vI N a))) sp dp n = vp_cell (gI G) (n1, .inl (va_cpy (vI N a0) (vI N a) sp.toNatClampNeg dp.toNatClampNeg n.toNatClampNeg)) := va_copied (fun z => .int z) (gI G) (gI G) (vI N a0) (vI N a) h4
  rw [ee] at Y' step
  have hl2 : G.1 + a < H.size := (Array.getElem?_eq_some_iff.mp hc1).1
  have hheap : ((T.setVm vm').setCell (G.1 + a) (vp_cell (gI G) (n1, .inl (va_cpy (vI N a0) (vI N a) sp.toNatClampNeg dp.toNatClampNeg n.toNatClampNeg)))).heap = H.setIfInBounds (G.1 + a) (vp_cell (gI G) (n1, .inl (va_cpy (vI N a0) (vI N a) sp.toNatClampNeg dp.toNatClampNeg n.toNatClampNeg))) := by rw [← hT]; rfl
  have oq : ∀ q : Nat, q ≠ G.1 + a → (H.setIfInBounds (G.1 + a) (vp_cell (gI G) (n1, .inl (va_cpy (vI N a0) (vI N a) sp.toNatClampNeg dp.toNatClampNeg n.toNatClampNeg))))[q]? = H[q]? := fun q hq => by simp [Array.getElem?_setIfInBounds, Ne.symm hq]
  have hP1 := hW.1.set wsD e1 (e := .inl (gI G, n1, .inl (va_cpy (vI N a0) (vI N a) sp.toNatClampNeg dp.toNatClampNeg n.toNatClampNeg))) (show (H.setIfInBounds (G.1 + a) _)[G.1 + a]? = some _ by simp [Array.getElem?_setIfInBounds, hl2]) oq
  rw [ws_set (G := G) (N := N) (N' := sA N a (va_cpy (vI N a0) (vI N a) sp.toNatClampNeg dp.toNatClampNeg n.toNatClampNeg)) rfl ha (by rw [cE_int (N := sA N a _) (a := a) hs1]; simp only [vI, sA, up1, if_true]) (fun j hj => cE_sA hj)] at hP1
  obtain ⟨t, a1, b1⟩ := (k G p l e R s m args below meth c mc ms Q hC hK hR hret _ _ cells slots lsr ⟨hP1, by simp; exact hW.2.1, hW.2.2⟩ ⟨by simp; exact hS.1, fun q g1 g2 => by
      rw [oq q (fun e => g2 (by rw [e]; exact Nat.le_add_right _ _))]
      exact hS.2.1 q g1 g2, fun q hq => by
      rcases List.mem_append.mp hq with h | h
      · exact hS.2.2 q h
      · obtain ⟨z, -, hz⟩ := List.mem_map.mp h
        rw [← hz]
        exact Nat.le_add_right _ _⟩ hc hs hl hn) _ hheap Y'
  exact ⟨t, step t a1, b1⟩
/-! switches -/
def swk (J : Nat → Prop) (dt : Nat) (x : Int32) : List (Int32 × Nat) → Prop
  | [] => J dt
  | (v, t) :: r => (x = v → J t) ∧ (¬ x = v → swk J dt x r)
theorem swk_spec {J : Nat → Prop} {dt : Nat} {x : Int32} : ∀ (ts : List (Int32 × Nat)), swk J dt x ts → (∃ (j : Nat) (q : Int32 × Nat), ts[j]? = some q ∧ q.1 = x ∧ J q.2) ∨ ((∀ q ∈ ts, q.1 ≠ x) ∧ J dt)
  | [], h => Or.inr ⟨fun q hq => by simp at hq, h⟩
  | (v, t) :: r, h => by
    by_cases hv : x = v
    · exact Or.inl ⟨0, (v, t), rfl, hv.symm, h.1 hv⟩
    · rcases swk_spec r (h.2 hv) with ⟨j, q, h1, h2⟩ | ⟨h1, h2⟩
      · exact Or.inl ⟨j + 1, q, by simpa using h1, h2⟩
      · refine Or.inr ⟨fun q hq => ?_, h2⟩
        rcases List.mem_cons.mp hq with rfl | hq
        · exact fun e => hv e.symm
        · exact h1 q hq
theorem wr_tsw {dflt lo hi : Int} {offs : Array Int} {len dt : Nat} {x : Int32} {ts : List (Int32 × Nat)} (hd : decode (am_c mid) pc = .ok (.tableswitch dflt lo hi offs, len)) (hts : ts.map (fun q => (q.1.toInt, (q.2 : Int))) = offs.toList.mapIdx (fun j o => (lo + (j : Int), (pc : Int) + o))) (hhi : hi = lo + (offs.size : Int) - 1) (hdt : (pc : Int) + dflt = (dt : Int)) (k : swk (fun t => wp X d mid bc bs t ls st N post) dt x ts) : wp X d mid bc bs pc ls (.int x :: st) N post := by
  have at' : ∀ (j : Nat) (q : Int32 × Nat), ts[j]? = some q → ∃ o, offs[j]? = some o ∧ q.1.toInt = lo + (j : Int) ∧ (q.2 : Int) = (pc : Int) + o := by
    intro j q hq
    have h1 : (ts.map (fun q => (q.1.toInt, (q.2 : Int))))[j]? = some (q.1.toInt, (q.2 : Int)) := by rw [List.getElem?_map, hq]; rfl
    rw [hts, List.getElem?_mapIdx] at h1
    cases ho : offs.toList[j]? with
    | none => rw [ho] at h1; cases h1
    | some o =>
      rw [ho] at h1
      have h2 := Option.some.inj h1
      exact ⟨o, by rw [← Array.getElem?_toList]; exact ho, (congrArg Prod.fst h2).symm, (congrArg Prod.snd h2).symm⟩
  have hlen : ts.length = offs.size := by
    have := congrArg List.length hts
    simpa using this
  rcases swk_spec ts k with ⟨j, q, h1, h2, h3⟩ | ⟨h1, h2⟩
  · obtain ⟨o, g1, g2, g3⟩ := at' j q h1
    have hj : j < offs.size := (Array.getElem?_eq_some_iff.mp g1).1
    rw [h2] at g2
    intro G p l e R s m args below meth c mc ms Q hC hK hR hret H locs cells slots lsr hW hS hc hs hl hn
    obtain ⟨hx, hb, hml, hown, hts, hnm, hdf, hdl⟩ := id hC
    refine lv_tableIn (tgt := q.2) hx hb hd (by omega) (by omega) (off := o) ?_ g3.symm (h3 G p l e R s m args below meth c mc ms Q hC hK hR hret H locs cells slots lsr hW hS hc hs hl hn)
    rw [show (x.toInt - lo).toNat = j by omega]
    exact g1
  · intro G p l e R s m args below meth c mc ms Q hC hK hR hret H locs cells slots lsr hW hS hc hs hl hn
    obtain ⟨hx, hb, hml, hown, hts, hnm, hdf, hdl⟩ := id hC
    refine lv_tableOut (tgt := dt) hx hb hd ?_ hdt (h2 G p l e R s m args below meth c mc ms Q hC hK hR hret H locs cells slots lsr hW hS hc hs hl hn)
    by_cases hlt : x.toInt < lo
    · exact Or.inl hlt
    · right
      apply Int.not_le.mp
      intro hle
      have hj : (x.toInt - lo).toNat < ts.length := by rw [hlen]; omega
      obtain ⟨o, -, g2, -⟩ := at' _ _ (List.getElem?_eq_getElem hj)
      refine h1 ts[(x.toInt - lo).toNat] (List.getElem_mem hj) (Int32.toInt_inj.mp ?_)
      rw [g2]; omega
theorem wr_lsw_off {J : Nat → Prop} {dt : Nat} {x : Int32} {dflt : Int} (hdt : (pc : Int) + dflt = (dt : Int)) : ∀ (ts : List (Int32 × Nat)) (ps : List (Int × Int)), ts.map (fun q => (q.1.toInt, (q.2 : Int))) = ps.map (fun q => (q.1, (pc : Int) + q.2)) → swk J dt x ts → ∃ t : Nat, (pc : Int) + Op.lookupswitch.offset ps dflt x.toInt = (t : Int) ∧ J t
  | [], [], _, h => ⟨dt, hdt, h⟩
  | (v, t) :: r, (a, o) :: ps, he, h => by
    rw [List.map_cons, List.map_cons] at he
    injection he with e1 e2
    have ea : v.toInt = a := congrArg Prod.fst e1
    have eo : (t : Int) = (pc : Int) + o := congrArg Prod.snd e1
    by_cases hv : x = v
    · refine ⟨t, ?_, h.1 hv⟩
      rw [Op.lookupswitch.offset_cons, if_pos (by rw [hv, ea]), eo]
    · obtain ⟨t', h1, h2⟩ := wr_lsw_off hdt r ps e2 (h.2 hv)
      exact ⟨t', by rw [lv_osw hv ea]; exact h1, h2⟩
  | [], _ :: _, he, _ => by simp at he
  | _ :: _, [], he, _ => by simp at he
theorem wr_lsw {dflt : Int} {ps : Array (Int × Int)} {len dt : Nat} {x : Int32} {ts : List (Int32 × Nat)} (hd : decode (am_c mid) pc = .ok (.lookupswitch dflt ps, len)) (hp : (ps.toList.zip (ps.toList.drop 1)).all (fun (a, next) => a.1 < next.1) = true) (hts : ts.map (fun q => (q.1.toInt, (q.2 : Int))) = ps.toList.map (fun q => (q.1, (pc : Int) + q.2))) (hdt : (pc : Int) + dflt = (dt : Int)) (k : swk (fun t => wp X d mid bc bs t ls st N post) dt x ts) : wp X d mid bc bs pc ls (.int x :: st) N post := by
  obtain ⟨t, h1, h2⟩ := wr_lsw_off hdt ts ps.toList hts k
  intro G p l e R s m args below meth c mc ms Q hC hK hR hret H locs cells slots lsr hW hS hc hs hl hn
  obtain ⟨hx, hb, hml, hown, hts, hnm, hdf, hdl⟩ := id hC
  exact lv_lookup (tgt := t) hx hb hd hp rfl h1 (h2 G p l e R s m args below meth c mc ms Q hC hK hR hret H locs cells slots lsr hW hS hc hs hl hn)
end R4
