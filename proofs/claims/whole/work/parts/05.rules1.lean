variable {X : aX} {d mid bc bs pc : Nat} {ls : aL} {st : List Value} {N : aN} {post : aO}
theorem wr_iconst {n : Int} {v : Int32} (hd : decode (am_c mid) pc = .ok (.iconst n, 1)) (hv : Int32.ofInt n = v) (k : wp X d mid bc bs (pc + 1) ls (.int v :: st) N post) : wp X d mid bc bs pc ls (st) N post := by
  intro G p l e R s m args below meth c mc ms Q hC hK hR hret H locs cells slots lsr hW hS hc hs hl hn
  obtain ⟨hx, hb, hml, hown, hts, hnm, hdf, hdl⟩ := id hC
  exact lv_iconst hx hb hd hv (k G p l e R s m args below meth c mc ms Q hC hK hR hret H locs cells slots lsr hW hS hc hs hl hn)
theorem wr_bipush {n : Int} {v : Int32} (hd : decode (am_c mid) pc = .ok (.bipush n, 2)) (hv : (Int8.ofInt n).toInt32 = v) (k : wp X d mid bc bs (pc + 2) ls (.int v :: st) N post) : wp X d mid bc bs pc ls (st) N post := by
  intro G p l e R s m args below meth c mc ms Q hC hK hR hret H locs cells slots lsr hW hS hc hs hl hn
  obtain ⟨hx, hb, hml, hown, hts, hnm, hdf, hdl⟩ := id hC
  exact lv_bipush hx hb hd hv (k G p l e R s m args below meth c mc ms Q hC hK hR hret H locs cells slots lsr hW hS hc hs hl hn)
theorem wr_sipush {n : Int} {v : Int32} (hd : decode (am_c mid) pc = .ok (.sipush n, 3)) (hv : (Int16.ofInt n).toInt32 = v) (k : wp X d mid bc bs (pc + 3) ls (.int v :: st) N post) : wp X d mid bc bs pc ls (st) N post := by
  intro G p l e R s m args below meth c mc ms Q hC hK hR hret H locs cells slots lsr hW hS hc hs hl hn
  obtain ⟨hx, hb, hml, hown, hts, hnm, hdf, hdl⟩ := id hC
  exact lv_sipush hx hb hd hv (k G p l e R s m args below meth c mc ms Q hC hK hR hret H locs cells slots lsr hW hS hc hs hl hn)
theorem wr_lconst {n : Fin 2} {v : Int64} (hd : decode (am_c mid) pc = .ok (.lconst n, 1)) (hv : Int64.ofNat (n : Nat) = v) (k : wp X d mid bc bs (pc + 1) ls (.long v :: st) N post) : wp X d mid bc bs pc ls (st) N post := by
  intro G p l e R s m args below meth c mc ms Q hC hK hR hret H locs cells slots lsr hW hS hc hs hl hn
  obtain ⟨hx, hb, hml, hown, hts, hnm, hdf, hdl⟩ := id hC
  exact lv_lconst hx hb hd hv (k G p l e R s m args below meth c mc ms Q hC hK hR hret H locs cells slots lsr hW hS hc hs hl hn)
theorem wr_ldc {i : Nat} {v : Int32} (hd : decode (am_c mid) pc = .ok (.ldc i, 2)) (hv : Cond.constant (am_y mid).cls i v ∈ am_big) (k : wp X d mid bc bs (pc + 2) ls (.int v :: st) N post) : wp X d mid bc bs pc ls (st) N post := by
  intro G p l e R s m args below meth c mc ms Q hC hK hR hret H locs cells slots lsr hW hS hc hs hl hn
  obtain ⟨hx, hb, hml, hown, hts, hnm, hdf, hdl⟩ := id hC
  exact lv_ldc hx hb hown (hts _ hv) hd (k G p l e R s m args below meth c mc ms Q hC hK hR hret H locs cells slots lsr hW hS hc hs hl hn)
theorem wr_ldcw {i : Nat} {v : Int32} (hd : decode (am_c mid) pc = .ok (.ldc_w i, 3)) (hv : Cond.constant (am_y mid).cls i v ∈ am_big) (k : wp X d mid bc bs (pc + 3) ls (.int v :: st) N post) : wp X d mid bc bs pc ls (st) N post := by
  intro G p l e R s m args below meth c mc ms Q hC hK hR hret H locs cells slots lsr hW hS hc hs hl hn
  obtain ⟨hx, hb, hml, hown, hts, hnm, hdf, hdl⟩ := id hC
  exact lv_ldcw hx hb hown (hts _ hv) hd (k G p l e R s m args below meth c mc ms Q hC hK hR hret H locs cells slots lsr hW hS hc hs hl hn)
theorem wr_ldc2 {i : Nat} {v : Int64} (hd : decode (am_c mid) pc = .ok (.ldc2_w i, 3)) (hv : Cond.constantLong (am_y mid).cls i v ∈ am_big) (k : wp X d mid bc bs (pc + 3) ls (.long v :: st) N post) : wp X d mid bc bs pc ls (st) N post := by
  intro G p l e R s m args below meth c mc ms Q hC hK hR hret H locs cells slots lsr hW hS hc hs hl hn
  obtain ⟨hx, hb, hml, hown, hts, hnm, hdf, hdl⟩ := id hC
  exact lv_ldc2 hx hb hown (hts _ hv) hd (k G p l e R s m args below meth c mc ms Q hC hK hR hret H locs cells slots lsr hW hS hc hs hl hn)
theorem wr_iload_n {q : Fin 4} {i : Nat} {x : Int32} (hd : decode (am_c mid) pc = .ok (.iload_n q, 1)) (hq : (q : Nat) = i) (hv : ls[i]? = some (some (.int x))) (k : wp X d mid bc bs (pc + 1) ls (.int x :: st) N post) : wp X d mid bc bs pc ls (st) N post := by
  intro G p l e R s m args below meth c mc ms Q hC hK hR hret H locs cells slots lsr hW hS hc hs hl hn
  obtain ⟨hx, hb, hml, hown, hts, hnm, hdf, hdl⟩ := id hC
  exact lv_iload_n hx hb hd hq (las_at hl hv) (k G p l e R s m args below meth c mc ms Q hC hK hR hret H locs cells slots lsr hW hS hc hs hl hn)
theorem wr_iload {i : Nat} {x : Int32} (hd : decode (am_c mid) pc = .ok (.iload i, 2)) (hv : ls[i]? = some (some (.int x))) (k : wp X d mid bc bs (pc + 2) ls (.int x :: st) N post) : wp X d mid bc bs pc ls (st) N post := by
  intro G p l e R s m args below meth c mc ms Q hC hK hR hret H locs cells slots lsr hW hS hc hs hl hn
  obtain ⟨hx, hb, hml, hown, hts, hnm, hdf, hdl⟩ := id hC
  exact lv_iload hx hb hd (las_at hl hv) (k G p l e R s m args below meth c mc ms Q hC hK hR hret H locs cells slots lsr hW hS hc hs hl hn)
theorem wr_istore_n {q : Fin 4} {i : Nat} {x : Int32} (hd : decode (am_c mid) pc = .ok (.istore_n q, 1)) (hq : (q : Nat) = i) (hi : i < am_l mid) (k : wp X d mid bc bs (pc + 1) (lvc ls i (.int x)) (st) N post) : wp X d mid bc bs pc ls (.int x :: st) N post := by
  intro G p l e R s m args below meth c mc ms Q hC hK hR hret H locs cells slots lsr hW hS hc hs hl hn
  obtain ⟨hx, hb, hml, hown, hts, hnm, hdf, hdl⟩ := id hC
  exact lv_istore_n hx hb hd hq hl hi rfl (fun lsr' hl' => (k G p l e R s m args below meth c mc ms Q hC hK hR hret H locs cells slots lsr' hW hS hc hs (lvh_mono hl' (las_st1)) (by rw [lvc_len]; exact hn)))
theorem wr_istore {i : Nat} {x : Int32} (hd : decode (am_c mid) pc = .ok (.istore i, 2)) (hi : i < am_l mid) (k : wp X d mid bc bs (pc + 2) (lvc ls i (.int x)) (st) N post) : wp X d mid bc bs pc ls (.int x :: st) N post := by
  intro G p l e R s m args below meth c mc ms Q hC hK hR hret H locs cells slots lsr hW hS hc hs hl hn
  obtain ⟨hx, hb, hml, hown, hts, hnm, hdf, hdl⟩ := id hC
  exact lv_istore hx hb hd hl hi rfl (fun lsr' hl' => (k G p l e R s m args below meth c mc ms Q hC hK hR hret H locs cells slots lsr' hW hS hc hs (lvh_mono hl' (las_st1)) (by rw [lvc_len]; exact hn)))
theorem wr_lload_n {q : Fin 4} {i : Nat} {x : Int64} (hd : decode (am_c mid) pc = .ok (.lload_n q, 1)) (hq : (q : Nat) = i) (hv : ls[i]? = some (some (.long x))) (k : wp X d mid bc bs (pc + 1) ls (.long x :: st) N post) : wp X d mid bc bs pc ls (st) N post := by
  intro G p l e R s m args below meth c mc ms Q hC hK hR hret H locs cells slots lsr hW hS hc hs hl hn
  obtain ⟨hx, hb, hml, hown, hts, hnm, hdf, hdl⟩ := id hC
  exact lv_lload_n hx hb hd hq (las_at hl hv) (k G p l e R s m args below meth c mc ms Q hC hK hR hret H locs cells slots lsr hW hS hc hs hl hn)
theorem wr_lload {i : Nat} {x : Int64} (hd : decode (am_c mid) pc = .ok (.lload i, 2)) (hv : ls[i]? = some (some (.long x))) (k : wp X d mid bc bs (pc + 2) ls (.long x :: st) N post) : wp X d mid bc bs pc ls (st) N post := by
  intro G p l e R s m args below meth c mc ms Q hC hK hR hret H locs cells slots lsr hW hS hc hs hl hn
  obtain ⟨hx, hb, hml, hown, hts, hnm, hdf, hdl⟩ := id hC
  exact lv_lload hx hb hd (las_at hl hv) (k G p l e R s m args below meth c mc ms Q hC hK hR hret H locs cells slots lsr hW hS hc hs hl hn)
theorem wr_lstore_n {q : Fin 4} {i : Nat} {x : Int64} (hd : decode (am_c mid) pc = .ok (.lstore_n q, 1)) (hq : (q : Nat) = i) (hi : i + 1 < am_l mid) (k : wp X d mid bc bs (pc + 1) (lvd ls i (.long x)) (st) N post) : wp X d mid bc bs pc ls (.long x :: st) N post := by
  intro G p l e R s m args below meth c mc ms Q hC hK hR hret H locs cells slots lsr hW hS hc hs hl hn
  obtain ⟨hx, hb, hml, hown, hts, hnm, hdf, hdl⟩ := id hC
  exact lv_lstore_n hx hb hd hq hl hi rfl (fun lsr' hl' => (k G p l e R s m args below meth c mc ms Q hC hK hR hret H locs cells slots lsr' hW hS hc hs (lvh_mono hl' (las_st2 (by omega))) (by rw [lvd_len]; exact hn)))
theorem wr_lstore {i : Nat} {x : Int64} (hd : decode (am_c mid) pc = .ok (.lstore i, 2)) (hi : i + 1 < am_l mid) (k : wp X d mid bc bs (pc + 2) (lvd ls i (.long x)) (st) N post) : wp X d mid bc bs pc ls (.long x :: st) N post := by
  intro G p l e R s m args below meth c mc ms Q hC hK hR hret H locs cells slots lsr hW hS hc hs hl hn
  obtain ⟨hx, hb, hml, hown, hts, hnm, hdf, hdl⟩ := id hC
  exact lv_lstore hx hb hd hl hi rfl (fun lsr' hl' => (k G p l e R s m args below meth c mc ms Q hC hK hR hret H locs cells slots lsr' hW hS hc hs (lvh_mono hl' (las_st2 (by omega))) (by rw [lvd_len]; exact hn)))
theorem wr_aload_n {q : Fin 4} {i : Nat} {x : Nat} (hd : decode (am_c mid) pc = .ok (.aload_n q, 1)) (hq : (q : Nat) = i) (hv : ls[i]? = some (some (.ref x))) (k : wp X d mid bc bs (pc + 1) ls (.ref x :: st) N post) : wp X d mid bc bs pc ls (st) N post := by
  intro G p l e R s m args below meth c mc ms Q hC hK hR hret H locs cells slots lsr hW hS hc hs hl hn
  obtain ⟨hx, hb, hml, hown, hts, hnm, hdf, hdl⟩ := id hC
  exact lv_aload_n hx hb hd hq (las_at hl hv) (k G p l e R s m args below meth c mc ms Q hC hK hR hret H locs cells slots lsr hW hS hc hs hl hn)
theorem wr_aload {i : Nat} {x : Nat} (hd : decode (am_c mid) pc = .ok (.aload i, 2)) (hv : ls[i]? = some (some (.ref x))) (k : wp X d mid bc bs (pc + 2) ls (.ref x :: st) N post) : wp X d mid bc bs pc ls (st) N post := by
  intro G p l e R s m args below meth c mc ms Q hC hK hR hret H locs cells slots lsr hW hS hc hs hl hn
  obtain ⟨hx, hb, hml, hown, hts, hnm, hdf, hdl⟩ := id hC
  exact lv_aload hx hb hd (las_at hl hv) (k G p l e R s m args below meth c mc ms Q hC hK hR hret H locs cells slots lsr hW hS hc hs hl hn)
theorem wr_astore_n {q : Fin 4} {i : Nat} {x : Nat} (hd : decode (am_c mid) pc = .ok (.astore_n q, 1)) (hq : (q : Nat) = i) (hi : i < am_l mid) (k : wp X d mid bc bs (pc + 1) (lvc ls i (.ref x)) (st) N post) : wp X d mid bc bs pc ls (.ref x :: st) N post := by
  intro G p l e R s m args below meth c mc ms Q hC hK hR hret H locs cells slots lsr hW hS hc hs hl hn
  obtain ⟨hx, hb, hml, hown, hts, hnm, hdf, hdl⟩ := id hC
  exact lv_astore_n hx hb hd hq hl hi rfl (fun lsr' hl' => (k G p l e R s m args below meth c mc ms Q hC hK hR hret H locs cells slots lsr' hW hS hc hs (lvh_mono hl' (las_st1)) (by rw [lvc_len]; exact hn)))
theorem wr_astore {i : Nat} {x : Nat} (hd : decode (am_c mid) pc = .ok (.astore i, 2)) (hi : i < am_l mid) (k : wp X d mid bc bs (pc + 2) (lvc ls i (.ref x)) (st) N post) : wp X d mid bc bs pc ls (.ref x :: st) N post := by
  intro G p l e R s m args below meth c mc ms Q hC hK hR hret H locs cells slots lsr hW hS hc hs hl hn
  obtain ⟨hx, hb, hml, hown, hts, hnm, hdf, hdl⟩ := id hC
  exact lv_astore hx hb hd hl hi rfl (fun lsr' hl' => (k G p l e R s m args below meth c mc ms Q hC hK hR hret H locs cells slots lsr' hW hS hc hs (lvh_mono hl' (las_st1)) (by rw [lvc_len]; exact hn)))
theorem wr_iinc {i : Nat} {n : Int} {x v : Int32} (hd : decode (am_c mid) pc = .ok (.iinc i n, 3)) (hv : ls[i]? = some (some (.int x))) (hn0 : Int32.ofInt n = v) (hi : i < am_l mid) (k : wp X d mid bc bs (pc + 3) (lvc ls i (.int (x + v))) st N post) : wp X d mid bc bs pc ls st N post := by
  intro G p l e R s m args below meth c mc ms Q hC hK hR hret H locs cells slots lsr hW hS hc hs hl hn
  obtain ⟨hx, hb, hml, hown, hts, hnm, hdf, hdl⟩ := id hC
  have hm := las_mem (G := G) ls i 0 _ hv
  rw [Nat.zero_add] at hm
  obtain ⟨q, hq⟩ := List.getElem?_of_mem hm
  subst hn0
  exact lv_iinc (v := x + Int32.ofInt n) hx hb hd hl hq rfl hi rfl (fun lsr' hl' => (k G p l e R s m args below meth c mc ms Q hC hK hR hret H locs cells slots lsr' hW hS hc hs (lvh_mono hl' las_st1) (by rw [lvc_len]; exact hn)))
theorem wr_iadd {x y : Int32} (hd : decode (am_c mid) pc = .ok (.iadd, 1))  (k : wp X d mid bc bs (pc + 1) ls (.int (x + y) :: st) N post) : wp X d mid bc bs pc ls (.int y :: .int x :: st) N post := by
  intro G p l e R s m args below meth c mc ms Q hC hK hR hret H locs cells slots lsr hW hS hc hs hl hn
  obtain ⟨hx, hb, hml, hown, hts, hnm, hdf, hdl⟩ := id hC
  exact lv_iadd hx hb hd (k G p l e R s m args below meth c mc ms Q hC hK hR hret H locs cells slots lsr hW hS hc hs hl hn)
theorem wr_isub {x y : Int32} (hd : decode (am_c mid) pc = .ok (.isub, 1))  (k : wp X d mid bc bs (pc + 1) ls (.int (x - y) :: st) N post) : wp X d mid bc bs pc ls (.int y :: .int x :: st) N post := by
  intro G p l e R s m args below meth c mc ms Q hC hK hR hret H locs cells slots lsr hW hS hc hs hl hn
  obtain ⟨hx, hb, hml, hown, hts, hnm, hdf, hdl⟩ := id hC
  exact lv_isub hx hb hd (k G p l e R s m args below meth c mc ms Q hC hK hR hret H locs cells slots lsr hW hS hc hs hl hn)
theorem wr_imul {x y : Int32} (hd : decode (am_c mid) pc = .ok (.imul, 1))  (k : wp X d mid bc bs (pc + 1) ls (.int (x * y) :: st) N post) : wp X d mid bc bs pc ls (.int y :: .int x :: st) N post := by
  intro G p l e R s m args below meth c mc ms Q hC hK hR hret H locs cells slots lsr hW hS hc hs hl hn
  obtain ⟨hx, hb, hml, hown, hts, hnm, hdf, hdl⟩ := id hC
  exact lv_imul hx hb hd (k G p l e R s m args below meth c mc ms Q hC hK hR hret H locs cells slots lsr hW hS hc hs hl hn)
theorem wr_iand {x y : Int32} (hd : decode (am_c mid) pc = .ok (.iand, 1))  (k : wp X d mid bc bs (pc + 1) ls (.int (x &&& y) :: st) N post) : wp X d mid bc bs pc ls (.int y :: .int x :: st) N post := by
  intro G p l e R s m args below meth c mc ms Q hC hK hR hret H locs cells slots lsr hW hS hc hs hl hn
  obtain ⟨hx, hb, hml, hown, hts, hnm, hdf, hdl⟩ := id hC
  exact lv_iand hx hb hd (k G p l e R s m args below meth c mc ms Q hC hK hR hret H locs cells slots lsr hW hS hc hs hl hn)
theorem wr_ior {x y : Int32} (hd : decode (am_c mid) pc = .ok (.ior, 1))  (k : wp X d mid bc bs (pc + 1) ls (.int (x ||| y) :: st) N post) : wp X d mid bc bs pc ls (.int y :: .int x :: st) N post := by
  intro G p l e R s m args below meth c mc ms Q hC hK hR hret H locs cells slots lsr hW hS hc hs hl hn
  obtain ⟨hx, hb, hml, hown, hts, hnm, hdf, hdl⟩ := id hC
  exact lv_ior hx hb hd (k G p l e R s m args below meth c mc ms Q hC hK hR hret H locs cells slots lsr hW hS hc hs hl hn)
theorem wr_ixor {x y : Int32} (hd : decode (am_c mid) pc = .ok (.ixor, 1))  (k : wp X d mid bc bs (pc + 1) ls (.int (x ^^^ y) :: st) N post) : wp X d mid bc bs pc ls (.int y :: .int x :: st) N post := by
  intro G p l e R s m args below meth c mc ms Q hC hK hR hret H locs cells slots lsr hW hS hc hs hl hn
  obtain ⟨hx, hb, hml, hown, hts, hnm, hdf, hdl⟩ := id hC
  exact lv_ixor hx hb hd (k G p l e R s m args below meth c mc ms Q hC hK hR hret H locs cells slots lsr hW hS hc hs hl hn)
theorem wr_ishl {x y : Int32} (hd : decode (am_c mid) pc = .ok (.ishl, 1))  (k : wp X d mid bc bs (pc + 1) ls (.int (x <<< (y &&& 31)) :: st) N post) : wp X d mid bc bs pc ls (.int y :: .int x :: st) N post := by
  intro G p l e R s m args below meth c mc ms Q hC hK hR hret H locs cells slots lsr hW hS hc hs hl hn
  obtain ⟨hx, hb, hml, hown, hts, hnm, hdf, hdl⟩ := id hC
  exact lv_ishl hx hb hd (k G p l e R s m args below meth c mc ms Q hC hK hR hret H locs cells slots lsr hW hS hc hs hl hn)
theorem wr_ishr {x y : Int32} (hd : decode (am_c mid) pc = .ok (.ishr, 1))  (k : wp X d mid bc bs (pc + 1) ls (.int (x >>> (y &&& 31)) :: st) N post) : wp X d mid bc bs pc ls (.int y :: .int x :: st) N post := by
  intro G p l e R s m args below meth c mc ms Q hC hK hR hret H locs cells slots lsr hW hS hc hs hl hn
  obtain ⟨hx, hb, hml, hown, hts, hnm, hdf, hdl⟩ := id hC
  exact lv_ishr hx hb hd (k G p l e R s m args below meth c mc ms Q hC hK hR hret H locs cells slots lsr hW hS hc hs hl hn)
theorem wr_iushr {x y : Int32} (hd : decode (am_c mid) pc = .ok (.iushr, 1))  (k : wp X d mid bc bs (pc + 1) ls (.int (x.toUInt32 >>> (y.toUInt32 &&& Int32.toUInt32 31)).toInt32 :: st) N post) : wp X d mid bc bs pc ls (.int y :: .int x :: st) N post := by
  intro G p l e R s m args below meth c mc ms Q hC hK hR hret H locs cells slots lsr hW hS hc hs hl hn
  obtain ⟨hx, hb, hml, hown, hts, hnm, hdf, hdl⟩ := id hC
  exact lv_iushr hx hb hd rfl (k G p l e R s m args below meth c mc ms Q hC hK hR hret H locs cells slots lsr hW hS hc hs hl hn)
theorem wr_idiv {x y : Int32} (hd : decode (am_c mid) pc = .ok (.idiv, 1)) (h0 : ¬ y = 0) (k : wp X d mid bc bs (pc + 1) ls (.int (x / y) :: st) N post) : wp X d mid bc bs pc ls (.int y :: .int x :: st) N post := by
  intro G p l e R s m args below meth c mc ms Q hC hK hR hret H locs cells slots lsr hW hS hc hs hl hn
  obtain ⟨hx, hb, hml, hown, hts, hnm, hdf, hdl⟩ := id hC
  exact lv_idiv hx hb hd h0 (k G p l e R s m args below meth c mc ms Q hC hK hR hret H locs cells slots lsr hW hS hc hs hl hn)
theorem wr_irem {x y : Int32} (hd : decode (am_c mid) pc = .ok (.irem, 1)) (h0 : ¬ y = 0) (k : wp X d mid bc bs (pc + 1) ls (.int (x - x / y * y) :: st) N post) : wp X d mid bc bs pc ls (.int y :: .int x :: st) N post := by
  intro G p l e R s m args below meth c mc ms Q hC hK hR hret H locs cells slots lsr hW hS hc hs hl hn
  obtain ⟨hx, hb, hml, hown, hts, hnm, hdf, hdl⟩ := id hC
  exact lv_irem hx hb hd h0 (k G p l e R s m args below meth c mc ms Q hC hK hR hret H locs cells slots lsr hW hS hc hs hl hn)
theorem wr_ladd {x y : Int64} (hd : decode (am_c mid) pc = .ok (.ladd, 1))  (k : wp X d mid bc bs (pc + 1) ls (.long (x + y) :: st) N post) : wp X d mid bc bs pc ls (.long y :: .long x :: st) N post := by
  intro G p l e R s m args below meth c mc ms Q hC hK hR hret H locs cells slots lsr hW hS hc hs hl hn
  obtain ⟨hx, hb, hml, hown, hts, hnm, hdf, hdl⟩ := id hC
  exact lv_ladd hx hb hd (k G p l e R s m args below meth c mc ms Q hC hK hR hret H locs cells slots lsr hW hS hc hs hl hn)
theorem wr_lmul {x y : Int64} (hd : decode (am_c mid) pc = .ok (.lmul, 1))  (k : wp X d mid bc bs (pc + 1) ls (.long (x * y) :: st) N post) : wp X d mid bc bs pc ls (.long y :: .long x :: st) N post := by
  intro G p l e R s m args below meth c mc ms Q hC hK hR hret H locs cells slots lsr hW hS hc hs hl hn
  obtain ⟨hx, hb, hml, hown, hts, hnm, hdf, hdl⟩ := id hC
  exact lv_lmul hx hb hd (k G p l e R s m args below meth c mc ms Q hC hK hR hret H locs cells slots lsr hW hS hc hs hl hn)
theorem wr_ldiv {x y : Int64} (hd : decode (am_c mid) pc = .ok (.ldiv, 1)) (h0 : ¬ y = 0) (k : wp X d mid bc bs (pc + 1) ls (.long (x / y) :: st) N post) : wp X d mid bc bs pc ls (.long y :: .long x :: st) N post := by
  intro G p l e R s m args below meth c mc ms Q hC hK hR hret H locs cells slots lsr hW hS hc hs hl hn
  obtain ⟨hx, hb, hml, hown, hts, hnm, hdf, hdl⟩ := id hC
  exact lv_ldiv hx hb hd h0 (k G p l e R s m args below meth c mc ms Q hC hK hR hret H locs cells slots lsr hW hS hc hs hl hn)
theorem wr_lrem {x y : Int64} (hd : decode (am_c mid) pc = .ok (.lrem, 1)) (h0 : ¬ y = 0) (k : wp X d mid bc bs (pc + 1) ls (.long (x - x / y * y) :: st) N post) : wp X d mid bc bs pc ls (.long y :: .long x :: st) N post := by
  intro G p l e R s m args below meth c mc ms Q hC hK hR hret H locs cells slots lsr hW hS hc hs hl hn
  obtain ⟨hx, hb, hml, hown, hts, hnm, hdf, hdl⟩ := id hC
  exact lv_lrem hx hb hd h0 (k G p l e R s m args below meth c mc ms Q hC hK hR hret H locs cells slots lsr hW hS hc hs hl hn)
theorem wr_lcmp {x y : Int64} (hd : decode (am_c mid) pc = .ok (.lcmp, 1))  (k : wp X d mid bc bs (pc + 1) ls (.int (lg_cmp x y) :: st) N post) : wp X d mid bc bs pc ls (.long y :: .long x :: st) N post := by
  intro G p l e R s m args below meth c mc ms Q hC hK hR hret H locs cells slots lsr hW hS hc hs hl hn
  obtain ⟨hx, hb, hml, hown, hts, hnm, hdf, hdl⟩ := id hC
  exact W.lcmp hx hb hd (k G p l e R s m args below meth c mc ms Q hC hK hR hret H locs cells slots lsr hW hS hc hs hl hn)
theorem wr_i2l {x : Int32} (hd : decode (am_c mid) pc = .ok (.i2l, 1))  (k : wp X d mid bc bs (pc + 1) ls (.long x.toInt64 :: st) N post) : wp X d mid bc bs pc ls (.int x :: st) N post := by
  intro G p l e R s m args below meth c mc ms Q hC hK hR hret H locs cells slots lsr hW hS hc hs hl hn
  obtain ⟨hx, hb, hml, hown, hts, hnm, hdf, hdl⟩ := id hC
  exact lv_i2l hx hb hd rfl (k G p l e R s m args below meth c mc ms Q hC hK hR hret H locs cells slots lsr hW hS hc hs hl hn)
theorem wr_l2i {x : Int64} (hd : decode (am_c mid) pc = .ok (.l2i, 1))  (k : wp X d mid bc bs (pc + 1) ls (.int x.toInt32 :: st) N post) : wp X d mid bc bs pc ls (.long x :: st) N post := by
  intro G p l e R s m args below meth c mc ms Q hC hK hR hret H locs cells slots lsr hW hS hc hs hl hn
  obtain ⟨hx, hb, hml, hown, hts, hnm, hdf, hdl⟩ := id hC
  exact lv_l2i hx hb hd rfl (k G p l e R s m args below meth c mc ms Q hC hK hR hret H locs cells slots lsr hW hS hc hs hl hn)
theorem wr_i2b {x : Int32} (hd : decode (am_c mid) pc = .ok (.i2b, 1))  (k : wp X d mid bc bs (pc + 1) ls (.int x.toInt8.toInt32 :: st) N post) : wp X d mid bc bs pc ls (.int x :: st) N post := by
  intro G p l e R s m args below meth c mc ms Q hC hK hR hret H locs cells slots lsr hW hS hc hs hl hn
  obtain ⟨hx, hb, hml, hown, hts, hnm, hdf, hdl⟩ := id hC
  exact lv_i2b hx hb hd rfl (k G p l e R s m args below meth c mc ms Q hC hK hR hret H locs cells slots lsr hW hS hc hs hl hn)
theorem wr_dup {v : Value} (hd : decode (am_c mid) pc = .ok (.dup, 1)) (hv : v.category = 1) (k : wp X d mid bc bs (pc + 1) ls (v :: v :: st) N post) : wp X d mid bc bs pc ls (v :: st) N post := by
  intro G p l e R s m args below meth c mc ms Q hC hK hR hret H locs cells slots lsr hW hS hc hs hl hn
  obtain ⟨hx, hb, hml, hown, hts, hnm, hdf, hdl⟩ := id hC
  exact lv_dup hx hb hd ((rV_cat G v).trans hv) (k G p l e R s m args below meth c mc ms Q hC hK hR hret H locs cells slots lsr hW hS hc hs hl hn)
theorem wr_dup2 {v w : Value} (hd : decode (am_c mid) pc = .ok (.dup2, 1)) (hv : v.category = 1) (hw : w.category = 1) (k : wp X d mid bc bs (pc + 1) ls (v :: w :: v :: w :: st) N post) : wp X d mid bc bs pc ls (v :: w :: st) N post := by
  intro G p l e R s m args below meth c mc ms Q hC hK hR hret H locs cells slots lsr hW hS hc hs hl hn
  obtain ⟨hx, hb, hml, hown, hts, hnm, hdf, hdl⟩ := id hC
  exact lv_dup2_11 hx hb hd ((rV_cat G v).trans hv) ((rV_cat G w).trans hw) (k G p l e R s m args below meth c mc ms Q hC hK hR hret H locs cells slots lsr hW hS hc hs hl hn)
theorem wr_if_eq {x : Int32} {off : Int} {t : Nat} (hd : decode (am_c mid) pc = .ok (.ifCond .eq off, 3)) (ht : (pc : Int) + off = (t : Int)) (k : x = 0 → wp X d mid bc bs t ls st N post) (k2 : ¬ x = 0 → wp X d mid bc bs (pc + 3) ls st N post) : wp X d mid bc bs pc ls (.int x :: st) N post := by
  intro G p l e R s m args below meth c mc ms Q hC hK hR hret H locs cells slots lsr hW hS hc hs hl hn
  obtain ⟨hx, hb, hml, hown, hts, hnm, hdf, hdl⟩ := id hC
  exact lv_if_eq hx hb hd ht (fun h => (k h G p l e R s m args below meth c mc ms Q hC hK hR hret H locs cells slots lsr hW hS hc hs hl hn)) (fun h => (k2 h G p l e R s m args below meth c mc ms Q hC hK hR hret H locs cells slots lsr hW hS hc hs hl hn))
theorem wr_icmp_eq {x y : Int32} {off : Int} {t : Nat} (hd : decode (am_c mid) pc = .ok (.if_icmp .eq off, 3)) (ht : (pc : Int) + off = (t : Int)) (k : x = y → wp X d mid bc bs t ls st N post) (k2 : ¬ x = y → wp X d mid bc bs (pc + 3) ls st N post) : wp X d mid bc bs pc ls (.int y :: .int x :: st) N post := by
  intro G p l e R s m args below meth c mc ms Q hC hK hR hret H locs cells slots lsr hW hS hc hs hl hn
  obtain ⟨hx, hb, hml, hown, hts, hnm, hdf, hdl⟩ := id hC
  exact lv_icmp_eq hx hb hd ht (fun h => (k h G p l e R s m args below meth c mc ms Q hC hK hR hret H locs cells slots lsr hW hS hc hs hl hn)) (fun h => (k2 h G p l e R s m args below meth c mc ms Q hC hK hR hret H locs cells slots lsr hW hS hc hs hl hn))
theorem wr_if_ne {x : Int32} {off : Int} {t : Nat} (hd : decode (am_c mid) pc = .ok (.ifCond .ne off, 3)) (ht : (pc : Int) + off = (t : Int)) (k : ¬ x = 0 → wp X d mid bc bs t ls st N post) (k2 : x = 0 → wp X d mid bc bs (pc + 3) ls st N post) : wp X d mid bc bs pc ls (.int x :: st) N post := by
  intro G p l e R s m args below meth c mc ms Q hC hK hR hret H locs cells slots lsr hW hS hc hs hl hn
  obtain ⟨hx, hb, hml, hown, hts, hnm, hdf, hdl⟩ := id hC
  exact lv_if_ne hx hb hd ht (fun h => (k h G p l e R s m args below meth c mc ms Q hC hK hR hret H locs cells slots lsr hW hS hc hs hl hn)) (fun h => (k2 h G p l e R s m args below meth c mc ms Q hC hK hR hret H locs cells slots lsr hW hS hc hs hl hn))
theorem wr_icmp_ne {x y : Int32} {off : Int} {t : Nat} (hd : decode (am_c mid) pc = .ok (.if_icmp .ne off, 3)) (ht : (pc : Int) + off = (t : Int)) (k : ¬ x = y → wp X d mid bc bs t ls st N post) (k2 : x = y → wp X d mid bc bs (pc + 3) ls st N post) : wp X d mid bc bs pc ls (.int y :: .int x :: st) N post := by
  intro G p l e R s m args below meth c mc ms Q hC hK hR hret H locs cells slots lsr hW hS hc hs hl hn
  obtain ⟨hx, hb, hml, hown, hts, hnm, hdf, hdl⟩ := id hC
  exact lv_icmp_ne hx hb hd ht (fun h => (k h G p l e R s m args below meth c mc ms Q hC hK hR hret H locs cells slots lsr hW hS hc hs hl hn)) (fun h => (k2 h G p l e R s m args below meth c mc ms Q hC hK hR hret H locs cells slots lsr hW hS hc hs hl hn))
theorem wr_if_lt {x : Int32} {off : Int} {t : Nat} (hd : decode (am_c mid) pc = .ok (.ifCond .lt off, 3)) (ht : (pc : Int) + off = (t : Int)) (k : x < 0 → wp X d mid bc bs t ls st N post) (k2 : ¬ x < 0 → wp X d mid bc bs (pc + 3) ls st N post) : wp X d mid bc bs pc ls (.int x :: st) N post := by
  intro G p l e R s m args below meth c mc ms Q hC hK hR hret H locs cells slots lsr hW hS hc hs hl hn
  obtain ⟨hx, hb, hml, hown, hts, hnm, hdf, hdl⟩ := id hC
  exact lv_if_lt hx hb hd ht (fun h => (k h G p l e R s m args below meth c mc ms Q hC hK hR hret H locs cells slots lsr hW hS hc hs hl hn)) (fun h => (k2 h G p l e R s m args below meth c mc ms Q hC hK hR hret H locs cells slots lsr hW hS hc hs hl hn))
theorem wr_icmp_lt {x y : Int32} {off : Int} {t : Nat} (hd : decode (am_c mid) pc = .ok (.if_icmp .lt off, 3)) (ht : (pc : Int) + off = (t : Int)) (k : x < y → wp X d mid bc bs t ls st N post) (k2 : ¬ x < y → wp X d mid bc bs (pc + 3) ls st N post) : wp X d mid bc bs pc ls (.int y :: .int x :: st) N post := by
  intro G p l e R s m args below meth c mc ms Q hC hK hR hret H locs cells slots lsr hW hS hc hs hl hn
  obtain ⟨hx, hb, hml, hown, hts, hnm, hdf, hdl⟩ := id hC
  exact lv_icmp_lt hx hb hd ht (fun h => (k h G p l e R s m args below meth c mc ms Q hC hK hR hret H locs cells slots lsr hW hS hc hs hl hn)) (fun h => (k2 h G p l e R s m args below meth c mc ms Q hC hK hR hret H locs cells slots lsr hW hS hc hs hl hn))
theorem wr_if_ge {x : Int32} {off : Int} {t : Nat} (hd : decode (am_c mid) pc = .ok (.ifCond .ge off, 3)) (ht : (pc : Int) + off = (t : Int)) (k : 0 ≤ x → wp X d mid bc bs t ls st N post) (k2 : ¬ 0 ≤ x → wp X d mid bc bs (pc + 3) ls st N post) : wp X d mid bc bs pc ls (.int x :: st) N post := by
  intro G p l e R s m args below meth c mc ms Q hC hK hR hret H locs cells slots lsr hW hS hc hs hl hn
  obtain ⟨hx, hb, hml, hown, hts, hnm, hdf, hdl⟩ := id hC
  exact lv_if_ge hx hb hd ht (fun h => (k h G p l e R s m args below meth c mc ms Q hC hK hR hret H locs cells slots lsr hW hS hc hs hl hn)) (fun h => (k2 h G p l e R s m args below meth c mc ms Q hC hK hR hret H locs cells slots lsr hW hS hc hs hl hn))
theorem wr_icmp_ge {x y : Int32} {off : Int} {t : Nat} (hd : decode (am_c mid) pc = .ok (.if_icmp .ge off, 3)) (ht : (pc : Int) + off = (t : Int)) (k : y ≤ x → wp X d mid bc bs t ls st N post) (k2 : ¬ y ≤ x → wp X d mid bc bs (pc + 3) ls st N post) : wp X d mid bc bs pc ls (.int y :: .int x :: st) N post := by
  intro G p l e R s m args below meth c mc ms Q hC hK hR hret H locs cells slots lsr hW hS hc hs hl hn
  obtain ⟨hx, hb, hml, hown, hts, hnm, hdf, hdl⟩ := id hC
  exact lv_icmp_ge hx hb hd ht (fun h => (k h G p l e R s m args below meth c mc ms Q hC hK hR hret H locs cells slots lsr hW hS hc hs hl hn)) (fun h => (k2 h G p l e R s m args below meth c mc ms Q hC hK hR hret H locs cells slots lsr hW hS hc hs hl hn))
theorem wr_if_gt {x : Int32} {off : Int} {t : Nat} (hd : decode (am_c mid) pc = .ok (.ifCond .gt off, 3)) (ht : (pc : Int) + off = (t : Int)) (k : 0 < x → wp X d mid bc bs t ls st N post) (k2 : ¬ 0 < x → wp X d mid bc bs (pc + 3) ls st N post) : wp X d mid bc bs pc ls (.int x :: st) N post := by
  intro G p l e R s m args below meth c mc ms Q hC hK hR hret H locs cells slots lsr hW hS hc hs hl hn
  obtain ⟨hx, hb, hml, hown, hts, hnm, hdf, hdl⟩ := id hC
  exact lv_if_gt hx hb hd ht (fun h => (k h G p l e R s m args below meth c mc ms Q hC hK hR hret H locs cells slots lsr hW hS hc hs hl hn)) (fun h => (k2 h G p l e R s m args below meth c mc ms Q hC hK hR hret H locs cells slots lsr hW hS hc hs hl hn))
theorem wr_icmp_gt {x y : Int32} {off : Int} {t : Nat} (hd : decode (am_c mid) pc = .ok (.if_icmp .gt off, 3)) (ht : (pc : Int) + off = (t : Int)) (k : y < x → wp X d mid bc bs t ls st N post) (k2 : ¬ y < x → wp X d mid bc bs (pc + 3) ls st N post) : wp X d mid bc bs pc ls (.int y :: .int x :: st) N post := by
  intro G p l e R s m args below meth c mc ms Q hC hK hR hret H locs cells slots lsr hW hS hc hs hl hn
  obtain ⟨hx, hb, hml, hown, hts, hnm, hdf, hdl⟩ := id hC
  exact lv_icmp_gt hx hb hd ht (fun h => (k h G p l e R s m args below meth c mc ms Q hC hK hR hret H locs cells slots lsr hW hS hc hs hl hn)) (fun h => (k2 h G p l e R s m args below meth c mc ms Q hC hK hR hret H locs cells slots lsr hW hS hc hs hl hn))
theorem wr_if_le {x : Int32} {off : Int} {t : Nat} (hd : decode (am_c mid) pc = .ok (.ifCond .le off, 3)) (ht : (pc : Int) + off = (t : Int)) (k : x ≤ 0 → wp X d mid bc bs t ls st N post) (k2 : ¬ x ≤ 0 → wp X d mid bc bs (pc + 3) ls st N post) : wp X d mid bc bs pc ls (.int x :: st) N post := by
  intro G p l e R s m args below meth c mc ms Q hC hK hR hret H locs cells slots lsr hW hS hc hs hl hn
  obtain ⟨hx, hb, hml, hown, hts, hnm, hdf, hdl⟩ := id hC
  exact lv_if_le hx hb hd ht (fun h => (k h G p l e R s m args below meth c mc ms Q hC hK hR hret H locs cells slots lsr hW hS hc hs hl hn)) (fun h => (k2 h G p l e R s m args below meth c mc ms Q hC hK hR hret H locs cells slots lsr hW hS hc hs hl hn))
theorem wr_icmp_le {x y : Int32} {off : Int} {t : Nat} (hd : decode (am_c mid) pc = .ok (.if_icmp .le off, 3)) (ht : (pc : Int) + off = (t : Int)) (k : x ≤ y → wp X d mid bc bs t ls st N post) (k2 : ¬ x ≤ y → wp X d mid bc bs (pc + 3) ls st N post) : wp X d mid bc bs pc ls (.int y :: .int x :: st) N post := by
  intro G p l e R s m args below meth c mc ms Q hC hK hR hret H locs cells slots lsr hW hS hc hs hl hn
  obtain ⟨hx, hb, hml, hown, hts, hnm, hdf, hdl⟩ := id hC
  exact lv_icmp_le hx hb hd ht (fun h => (k h G p l e R s m args below meth c mc ms Q hC hK hR hret H locs cells slots lsr hW hS hc hs hl hn)) (fun h => (k2 h G p l e R s m args below meth c mc ms Q hC hK hR hret H locs cells slots lsr hW hS hc hs hl hn))
theorem wr_goto {off : Int} {t : Nat} (hd : decode (am_c mid) pc = .ok (.goto off, 3)) (ht : (pc : Int) + off = (t : Int)) (k : wp X d mid bc bs t ls st N post) : wp X d mid bc bs pc ls st N post := by
  intro G p l e R s m args below meth c mc ms Q hC hK hR hret H locs cells slots lsr hW hS hc hs hl hn
  obtain ⟨hx, hb, hml, hown, hts, hnm, hdf, hdl⟩ := id hC
  exact lv_goto hx hb hd ht (k G p l e R s m args below meth c mc ms Q hC hK hR hret H locs cells slots lsr hW hS hc hs hl hn)
theorem wr_ret {r : Option Value} (hr : aRt mid pc r) (hp : post r N) : wp X d mid bc bs pc ls (pR r []) N post := by
  intro G p l e R s m args below meth c mc ms Q hC hK hR hret H locs cells slots lsr hW hS hc hs hl hn
  obtain ⟨hx, hb, hml, hown, hts, hnm, hdf, hdl⟩ := id hC
  exact hret H locs cells slots lsr pc r N hp hW hS (by omega) (by omega) hr
