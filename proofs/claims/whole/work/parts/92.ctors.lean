/-! what the constructors make -/
theorem ac_int : Cond.arrayClass .int ∈ am_big := am_at 82 (by decide +kernel) rfl
theorem lo_S : Cond.methodLink "SewnAhead" 3 objectInit ∈ am_big := am_at 16 (by decide +kernel) rfl
theorem lo_C : Cond.methodLink "SewnAhead$Cloth" 3 objectInit ∈ am_big := am_at 26 (by decide +kernel) rfl
theorem lo_P : Cond.methodLink "SewnAhead$Plans" 3 objectInit ∈ am_big := am_at 89 (by decide +kernel) rfl
theorem lo_R : Cond.methodLink "SewnAhead$Row" 1 objectInit ∈ am_big := am_at 122 (by decide +kernel) rfl
theorem lo_M : Cond.methodLink "SewnAheadModel" 1 objectInit ∈ am_big := am_at 633 (by decide +kernel) rfl
theorem lo_in : Cond.instanceMethod objectInit ∈ am_big := am_at 17 (by decide +kernel) rfl
theorem lo_co : Cond.code objectInit ⟨#[0xb1]⟩ 1 none ∈ am_big := am_at 18 (by decide +kernel) rfl
theorem ln_0 : Cond.instantiable (qR 0) (qM 0) ∈ am_big := am_at 22 (by decide +kernel) rfl
theorem ly_0 : Cond.initialized (qR 0) ∈ am_big := in_C
theorem ln_1 : Cond.instantiable (qR 1) (qM 1) ∈ am_big := am_at 85 (by decide +kernel) rfl
theorem ly_1 : Cond.initialized (qR 1) ∈ am_big := in_P
theorem ln_2 : Cond.instantiable (qR 2) (qM 2) ∈ am_big := am_at 118 (by decide +kernel) rfl
theorem ly_2 : Cond.initialized (qR 2) ∈ am_big := in_R
theorem ln_3 : Cond.instantiable (qR 3) (qM 3) ∈ am_big := am_at 12 (by decide +kernel) rfl
theorem ly_3 : Cond.initialized (qR 3) ∈ am_big := in_S
theorem ln_4 : Cond.instantiable (qR 4) (qM 4) ∈ am_big := am_at 629 (by decide +kernel) rfl
theorem ly_4 : Cond.initialized (qR 4) ∈ am_big := in_M
section S92
variable {X : aX} {d mid bc bs pc : Nat} {ls : aL} {st : List Value} {post : aO} {vi : Nat → Nat → Int32} {vl : Nat → Nat → Int64} {vr : Nat → Nat → Nat} {n : Nat}
theorem up1_e {α : Type} {f : Nat → α} {i : Nat} {v : α} (h : f i = v) : up1 f i v = f := by
  funext j; by_cases hj : j = i
  · rw [hj, up1_s, h]
  · rw [up1_n hj]
theorem up1_up1 {α : Type} {f : Nat → α} {i : Nat} {v w : α} : up1 (up1 f i v) i w = up1 f i w := by
  funext j; by_cases hj : j = i
  · rw [hj, up1_s, up1_s]
  · rw [up1_n hj, up1_n hj, up1_n hj]
theorem up1_cm {α : Type} {f : Nat → α} {i j : Nat} {v w : α} (h : i ≠ j) : up1 (up1 f i v) j w = up1 (up1 f j w) i v := by
  funext k; by_cases hi : k = i
  · rw [hi, up1_n h, up1_s, up1_s]
  · rw [up1_n hi]
    by_cases hj : k = j
    · rw [hj, up1_s, up1_s]
    · rw [up1_n hj, up1_n hj, up1_n hi]
theorem up2_e {α : Type} {f : Nat → Nat → α} {i k : Nat} {v : α} (h : f i k = v) : up2 f i k v = f := by
  rw [up2_up1, ← h, vau_id, up1_id]
theorem up2_f {α : Type} {f : Nat → Nat → α} {i k : Nat} {g : Nat → α} {v : α} : up2 (up1 f i g) i k v = up1 f i (va_up g k v) := by
  rw [up2_up1, up1_s, up1_up1]
theorem wn_newI {len b1 b2 : Nat} {x : Int32} (hs : sh0 n = (0, len)) (h1 : vi n = fun _ => 0) (h2 : vl n = fun _ => 0) (h3 : vr n = fun _ => 0) (h0 : ¬ x < 0) (hlen : x.toNatClampNeg = len) (hle : len ≤ 100000) (hb1 : bc = b1 + 1) (hb2 : bs = b2 + len) (hN : n < 1000) (hd : decode (am_c mid) pc = .ok (.newarray .int, 2)) (k : wp X d mid b1 b2 (pc + 2) ls (.ref n :: st) (vi, vl, vr, sh0, n + 1) post) : wp X d mid bc bs pc ls (.int x :: st) (vi, vl, vr, sh0, n) post := by
  refine wr_newI h0 hlen hle ac_int hb1 hb2 hN hd ?_
  show wp X d mid b1 b2 (pc + 2) ls (.ref n :: st) (up1 vi n (fun _ => 0), up1 vl n (fun _ => 0), up1 vr n (fun _ => 0), up1 sh0 n (0, len), n + 1) post
  rw [up1_e h1, up1_e h2, up1_e h3, up1_e hs]; exact k
theorem wn_newR {len b1 b2 idx kd : Nat} {C : String} {x : Int32} (hs : sh0 n = (kd, len)) (h1 : vi n = fun _ => 0) (h2 : vl n = fun _ => 0) (hkd : (kd = 1 ∧ C = am_R2) ∨ (kd = 2 ∧ C = am_R0)) (h0 : ¬ x < 0) (hlen : x.toNatClampNeg = len) (hle : len ≤ 100000) (hcl : Cond.classLink (am_y mid).cls idx C ∈ am_big) (hb1 : bc = b1 + 1) (hb2 : bs = b2 + len) (hN : n < 1000) (hd : decode (am_c mid) pc = .ok (.anewarray idx, 3)) (k : wp X d mid b1 b2 (pc + 3) ls (.ref n :: st) (vi, vl, up1 vr n (fun _ => 0), sh0, n + 1) post) : wp X d mid bc bs pc ls (.int x :: st) (vi, vl, vr, sh0, n) post := by
  refine wr_newR hkd h0 hlen hle hcl hb1 hb2 hN hd ?_
  show wp X d mid b1 b2 (pc + 3) ls (.ref n :: st) (up1 vi n (fun _ => 0), up1 vl n (fun _ => 0), up1 vr n (fun _ => 0), up1 sh0 n (kd, len), n + 1) post
  rw [up1_e h1, up1_e h2, up1_e hs]; exact k
theorem wn_new {ci idx b1 b2 : Nat} (hs : sh0 n = (10 + ci, qM ci)) (h1 : vi n = fun _ => 0) (h2 : vl n = fun _ => 0) (hci : ci < 5) (hcl : Cond.classLink (am_y mid).cls idx (qR ci) ∈ am_big) (hins : Cond.instantiable (qR ci) (qM ci) ∈ am_big) (hini : Cond.initialized (qR ci) ∈ am_big) (hb1 : bc = b1 + 1) (hb2 : bs = b2 + qM ci) (hN : n < 1000) (hd : decode (am_c mid) pc = .ok (.new idx, 3)) (k : wp X d mid b1 b2 (pc + 3) ls (.ref n :: st) (vi, vl, up1 vr n (fun _ => 0), sh0, n + 1) post) : wp X d mid bc bs pc ls st (vi, vl, vr, sh0, n) post := by
  refine wr_new hci hcl hins hini hb1 hb2 hN hd ?_
  show wp X d mid b1 b2 (pc + 3) ls (.ref n :: st) (up1 vi n (fun _ => 0), up1 vl n (fun _ => 0), up1 vr n (fun _ => 0), up1 sh0 n (10 + ci, qM ci), n + 1) post
  rw [up1_e h1, up1_e h2, up1_e hs]; exact k
theorem wn_putR {ci k0 idx a x : Nat} {f : Nat → Nat} (ha : a < n) (hsh : sh0 a = (10 + ci, qM ci)) (hci : ci < 5) (hk : k0 < qM ci) (hln : Cond.fieldLink (am_y mid).cls idx (qR ci) (qT ci k0).2.1 (qT ci k0).2.2.1 ∈ am_big) (hft : am_ft ci k0 = 2) (hx0 : x < n) (hini : (am_y mid).name = "<init>") (hoc : qR ci = (am_y mid).cls) (hd : decode (am_c mid) pc = .ok (.putfield idx, 3)) (k : wp X d mid bc bs (pc + 3) ls st (vi, vl, up1 vr a (va_up f k0 (x + 1)), sh0, n) post) : wp X d mid bc bs pc ls (.ref x :: .ref a :: st) (vi, vl, up1 vr a f, sh0, n) post := by
  refine wr_putR (ci := ci) (k0 := k0) ha hsh hci hk hln hft hx0 hini hoc hd ?_
  show wp X d mid bc bs (pc + 3) ls st (vi, vl, up2 (up1 vr a f) a k0 (x + 1), sh0, n) post
  rw [up2_f]; exact k
theorem wn_putI {ci k0 idx a : Nat} {x : Int32} (ha : a < n) (hsh : sh0 a = (10 + ci, qM ci)) (hci : ci < 5) (hk : k0 < qM ci) (hln : Cond.fieldLink (am_y mid).cls idx (qR ci) (qT ci k0).2.1 (qT ci k0).2.2.1 ∈ am_big) (hft : am_ft ci k0 = 0) (hd : decode (am_c mid) pc = .ok (.putfield idx, 3)) (k : wp X d mid bc bs (pc + 3) ls st (up2 vi a k0 x, vl, vr, sh0, n) post) : wp X d mid bc bs pc ls (.int x :: .ref a :: st) (vi, vl, vr, sh0, n) post :=
  wr_putI (N := (vi, vl, vr, sh0, n)) (ci := ci) (k0 := k0) ha hsh hci hk hln hft hd k
theorem wn_putI0 {ci k0 idx a : Nat} {x : Int32} (hx : vi a k0 = x) (ha : a < n) (hsh : sh0 a = (10 + ci, qM ci)) (hci : ci < 5) (hk : k0 < qM ci) (hln : Cond.fieldLink (am_y mid).cls idx (qR ci) (qT ci k0).2.1 (qT ci k0).2.2.1 ∈ am_big) (hft : am_ft ci k0 = 0) (hd : decode (am_c mid) pc = .ok (.putfield idx, 3)) (k : wp X d mid bc bs (pc + 3) ls st (vi, vl, vr, sh0, n) post) : wp X d mid bc bs pc ls (.int x :: .ref a :: st) (vi, vl, vr, sh0, n) post :=
  wn_putI ha hsh hci hk hln hft hd (by rw [up2_e hx]; exact k)
theorem wn_putZ0 {ci k0 idx a : Nat} (hx : vi a k0 = 0) (ha : a < n) (hsh : sh0 a = (10 + ci, qM ci)) (hci : ci < 5) (hk : k0 < qM ci) (hln : Cond.fieldLink (am_y mid).cls idx (qR ci) (qT ci k0).2.1 (qT ci k0).2.2.1 ∈ am_big) (hft : am_ft ci k0 = 3) (hd : decode (am_c mid) pc = .ok (.putfield idx, 3)) (k : wp X d mid bc bs (pc + 3) ls st (vi, vl, vr, sh0, n) post) : wp X d mid bc bs pc ls (.int 0 :: .ref a :: st) (vi, vl, vr, sh0, n) post :=
  wr_putZ (N := (vi, vl, vr, sh0, n)) (ci := ci) (k0 := k0) ha hsh hci hk hln hft (Or.inl rfl) hd (show wp X d mid bc bs (pc + 3) ls st (up2 vi a k0 0, vl, vr, sh0, n) post by rw [up2_e hx]; exact k)
theorem wn_putL {ci k0 idx a : Nat} {x : Int64} (ha : a < n) (hsh : sh0 a = (10 + ci, qM ci)) (hci : ci < 5) (hk : k0 < qM ci) (hln : Cond.fieldLink (am_y mid).cls idx (qR ci) (qT ci k0).2.1 (qT ci k0).2.2.1 ∈ am_big) (hft : am_ft ci k0 = 1) (hd : decode (am_c mid) pc = .ok (.putfield idx, 3)) (k : wp X d mid bc bs (pc + 3) ls st (vi, up2 vl a k0 x, vr, sh0, n) post) : wp X d mid bc bs pc ls (.long x :: .ref a :: st) (vi, vl, vr, sh0, n) post :=
  wr_putL (N := (vi, vl, vr, sh0, n)) (ci := ci) (k0 := k0) ha hsh hci hk hln hft hd k
theorem wn_putL0 {ci k0 idx a : Nat} {x : Int64} (hx : vl a k0 = x) (ha : a < n) (hsh : sh0 a = (10 + ci, qM ci)) (hci : ci < 5) (hk : k0 < qM ci) (hln : Cond.fieldLink (am_y mid).cls idx (qR ci) (qT ci k0).2.1 (qT ci k0).2.2.1 ∈ am_big) (hft : am_ft ci k0 = 1) (hd : decode (am_c mid) pc = .ok (.putfield idx, 3)) (k : wp X d mid bc bs (pc + 3) ls st (vi, vl, vr, sh0, n) post) : wp X d mid bc bs pc ls (.long x :: .ref a :: st) (vi, vl, vr, sh0, n) post :=
  wn_putL ha hsh hci hk hln hft hd (by rw [up2_e hx]; exact k)
theorem wn_aast {a v m kd ci : Nat} {i : Int32} {f : Nat → Nat} (ha : a < n) (hv : v < n) (hsh : sh0 a = (kd, m)) (hsv : sh0 v = (10 + ci, qM ci)) (hkd : (kd = 1 ∧ ci = 2) ∨ (kd = 2 ∧ ci = 0)) (hi : vp_in i m) (hd : decode (am_c mid) pc = .ok (.aastore, 1)) (k : wp X d mid bc bs (pc + 1) ls st (vi, vl, up1 vr a (va_up f i.toNatClampNeg (v + 1)), sh0, n) post) : wp X d mid bc bs pc ls (.ref v :: .int i :: .ref a :: st) (vi, vl, up1 vr a f, sh0, n) post := by
  refine wr_aast (N := (vi, vl, up1 vr a f, sh0, n)) ha hv hsh hsv hkd hi hd ?_
  show wp X d mid bc bs (pc + 1) ls st (vi, vl, up2 (up1 vr a f) a i.toNatClampNeg (v + 1), sh0, n) post
  rw [up2_f]; exact k
end S92
theorem vr_out {b k : Nat} (h : (vrl.getD b []).length ≤ k) : vr0 b k = 0 := by
  unfold vr0; rw [List.getD_eq_getElem?_getD, List.getElem?_eq_none h]; rfl
theorem vr_z {b : Nat} (h : vrl.getD b [] = []) : vr0 b = fun _ => 0 := by
  funext k; exact vr_out (by rw [h]; exact Nat.zero_le _)
theorem cl_z {b j : Nat} (h : isCl b) (h1 : 1 ≤ j) (h2 : j ≤ 10) : vr0 (b + j) = fun _ => 0 := by
  have key : ∀ j, j < 11 → 1 ≤ j → vrl.getD (3 + j) [] = [] ∧ vrl.getD (14 + j) [] = [] ∧ vrl.getD (27 + j) [] = [] ∧ vrl.getD (62 + j) [] = [] ∧ vrl.getD (73 + j) [] = [] ∧ vrl.getD (84 + j) [] = [] := by decide
  obtain ⟨k1, k2, k3, k4, k5, k6⟩ := key j (by omega) h1
  rcases h with rfl | rfl | rfl | rfl | rfl | rfl
  · exact vr_z k1
  · exact vr_z k2
  · exact vr_z k3
  · exact vr_z k4
  · exact vr_z k5
  · exact vr_z k6
theorem rw_z {b : Nat} (h : isRw b) : vr0 (b + 1) = fun _ => 0 := by
  rcases h with rfl | rfl | rfl | rfl | rfl | rfl | rfl | rfl | rfl | rfl <;> exact vr_z rfl
def clF (b : Nat) : Nat → Nat := (va_up (va_up (va_up (va_up (va_up (va_up (va_up (va_up (va_up (va_up (fun _ => 0) 1 (b + 1 + 1)) 2 (b + 2 + 1)) 4 (b + 3 + 1)) 5 (b + 4 + 1)) 6 (b + 5 + 1)) 8 (b + 6 + 1)) 9 (b + 7 + 1)) 10 (b + 8 + 1)) 11 (b + 9 + 1)) 12 (b + 10 + 1))
theorem clF_e {b : Nat} (h : isCl b) : clF b = vr0 b := by
  funext k
  by_cases hk : k < 13
  · have key : ∀ k, k < 13 → clF 3 k = vr0 3 k ∧ clF 14 k = vr0 14 k ∧ clF 27 k = vr0 27 k ∧ clF 62 k = vr0 62 k ∧ clF 73 k = vr0 73 k ∧ clF 84 k = vr0 84 k := by decide
    obtain ⟨k1, k2, k3, k4, k5, k6⟩ := key k hk
    rcases h with rfl | rfl | rfl | rfl | rfl | rfl <;> assumption
  · have e : clF b k = 0 := by
      unfold clF
      rw [vau_n (by omega), vau_n (by omega), vau_n (by omega), vau_n (by omega), vau_n (by omega), vau_n (by omega), vau_n (by omega), vau_n (by omega), vau_n (by omega), vau_n (by omega)]
    rw [e]
    rcases h with rfl | rfl | rfl | rfl | rfl | rfl <;> exact (vr_out (by show 13 ≤ k; omega)).symm
theorem c_C_init {X : aX} {d : Nat} {post : aO} {vi : Nat → Nat → Int32} {vl : Nat → Nat → Int64} {vr : Nat → Nat → Nat} {b : Nat} (hb : isCl b) (h1 : ∀ j, b ≤ j → j ≤ b + 10 → vi j = fun _ => 0) (h2 : ∀ j, b ≤ j → j ≤ b + 10 → vl j = fun _ => 0) (h3 : ∀ j, b + 1 ≤ j → j ≤ b + 10 → vr j = vr0 j) (hQ : post none (vi, vl, up1 vr b (vr0 b), sh0, b + 11)) : CallOk X (d + 2) 10 164 k_C_init [.ref b] (vi, vl, up1 vr b (fun _ => 0), sh0, b + 1) post := by
  refine CallOk.intro (by decide +kernel) rfl (Nat.le_of_ble_eq_true rfl) ?_
  have cz : ∀ j, 1 ≤ j → j ≤ 10 → ∀ f : Nat → Nat, up1 vr b f (b + j) = fun _ => 0 := fun j a c f => by rw [up1_n (by omega), h3 _ (by omega) (by omega), cl_z hb a c]
  show wp X (d + 2) k_C_init 10 164 0 [some (.ref b)] [] (vi, vl, up1 vr b (fun _ => 0), sh0, b + 1) post
  refine wr_aload_n (q := 0) (by decide +kernel) rfl rfl ?_
  refine wr_obj (idx := 3) lo_C lo_in lo_co (Nat.le_of_ble_eq_true rfl) (by decide +kernel) ?_
  refine wr_aload_n (q := 0) (by decide +kernel) rfl rfl ?_
  refine wr_iconst (n := 0) (v := 0) (by decide +kernel) (by decide) ?_
  refine wn_putI0 (ci := 0) (k0 := 0) (idx := 9) (by rw [h1 b (by omega) (by omega)]) (by show b < b + 1; omega) (cl_s0 hb) (by decide) (by decide) lf_C_9 rfl (by decide +kernel) ?_
  refine wr_aload_n (q := 0) (by decide +kernel) rfl rfl ?_
  refine wr_iconst (n := 5) (v := 5) (by decide +kernel) (by decide) ?_
  refine wn_newI (n := b + 1) (len := 5) (b1 := 9) (b2 := 159) (cl_s1 hb) (h1 _ (by omega) (by omega)) (h2 _ (by omega) (by omega)) (cz 1 (by decide) (by decide) _) (by decide) (by decide) (by decide) rfl rfl (by have := cl_lt hb 10 (by decide); omega) (by decide +kernel) ?_
  refine wn_putR (ci := 0) (k0 := 1) (idx := 15) (by show b < b + 2; omega) (cl_s0 hb) (by decide) (by decide) lf_C_15 rfl (by show b + 1 < b + 2; omega) rfl rfl (by decide +kernel) ?_
  refine wr_aload_n (q := 0) (by decide +kernel) rfl rfl ?_
  refine wr_iconst (n := 5) (v := 5) (by decide +kernel) (by decide) ?_
  refine wn_newI (n := b + 2) (len := 5) (b1 := 8) (b2 := 154) (cl_s2 hb) (h1 _ (by omega) (by omega)) (h2 _ (by omega) (by omega)) (cz 2 (by decide) (by decide) _) (by decide) (by decide) (by decide) rfl rfl (by have := cl_lt hb 10 (by decide); omega) (by decide +kernel) ?_
  refine wn_putR (ci := 0) (k0 := 2) (idx := 19) (by show b < b + 3; omega) (cl_s0 hb) (by decide) (by decide) lf_C_19 rfl (by show b + 2 < b + 3; omega) rfl rfl (by decide +kernel) ?_
  refine wr_aload_n (q := 0) (by decide +kernel) rfl rfl ?_
  refine wr_iconst (n := 0) (v := 0) (by decide +kernel) (by decide) ?_
  refine wn_putI0 (ci := 0) (k0 := 3) (idx := 22) (by rw [h1 b (by omega) (by omega)]) (by show b < b + 3; omega) (cl_s0 hb) (by decide) (by decide) lf_C_22 rfl (by decide +kernel) ?_
  refine wr_aload_n (q := 0) (by decide +kernel) rfl rfl ?_
  refine wr_bipush (n := 8) (v := 8) (by decide +kernel) (by decide) ?_
  refine wn_newI (n := b + 3) (len := 8) (b1 := 7) (b2 := 146) (cl_s3 hb) (h1 _ (by omega) (by omega)) (h2 _ (by omega) (by omega)) (cz 3 (by decide) (by decide) _) (by decide) (by decide) (by decide) rfl rfl (by have := cl_lt hb 10 (by decide); omega) (by decide +kernel) ?_
  refine wn_putR (ci := 0) (k0 := 4) (idx := 25) (by show b < b + 4; omega) (cl_s0 hb) (by decide) (by decide) lf_C_25 rfl (by show b + 3 < b + 4; omega) rfl rfl (by decide +kernel) ?_
  refine wr_aload_n (q := 0) (by decide +kernel) rfl rfl ?_
  refine wr_bipush (n := 8) (v := 8) (by decide +kernel) (by decide) ?_
  refine wn_newI (n := b + 4) (len := 8) (b1 := 6) (b2 := 138) (cl_s4 hb) (h1 _ (by omega) (by omega)) (h2 _ (by omega) (by omega)) (cz 4 (by decide) (by decide) _) (by decide) (by decide) (by decide) rfl rfl (by have := cl_lt hb 10 (by decide); omega) (by decide +kernel) ?_
  refine wn_putR (ci := 0) (k0 := 5) (idx := 28) (by show b < b + 5; omega) (cl_s0 hb) (by decide) (by decide) lf_C_28 rfl (by show b + 4 < b + 5; omega) rfl rfl (by decide +kernel) ?_
  refine wr_aload_n (q := 0) (by decide +kernel) rfl rfl ?_
  refine wr_bipush (n := 8) (v := 8) (by decide +kernel) (by decide) ?_
  refine wn_newI (n := b + 5) (len := 8) (b1 := 5) (b2 := 130) (cl_s5 hb) (h1 _ (by omega) (by omega)) (h2 _ (by omega) (by omega)) (cz 5 (by decide) (by decide) _) (by decide) (by decide) (by decide) rfl rfl (by have := cl_lt hb 10 (by decide); omega) (by decide +kernel) ?_
  refine wn_putR (ci := 0) (k0 := 6) (idx := 31) (by show b < b + 6; omega) (cl_s0 hb) (by decide) (by decide) lf_C_31 rfl (by show b + 5 < b + 6; omega) rfl rfl (by decide +kernel) ?_
  refine wr_aload_n (q := 0) (by decide +kernel) rfl rfl ?_
  refine wr_iconst (n := 0) (v := 0) (by decide +kernel) (by decide) ?_
  refine wn_putI0 (ci := 0) (k0 := 7) (idx := 34) (by rw [h1 b (by omega) (by omega)]) (by show b < b + 6; omega) (cl_s0 hb) (by decide) (by decide) lf_C_34 rfl (by decide +kernel) ?_
  refine wr_aload_n (q := 0) (by decide +kernel) rfl rfl ?_
  refine wr_bipush (n := 40) (v := 40) (by decide +kernel) (by decide) ?_
  refine wn_newI (n := b + 6) (len := 40) (b1 := 4) (b2 := 90) (cl_s6 hb) (h1 _ (by omega) (by omega)) (h2 _ (by omega) (by omega)) (cz 6 (by decide) (by decide) _) (by decide) (by decide) (by decide) rfl rfl (by have := cl_lt hb 10 (by decide); omega) (by decide +kernel) ?_
  refine wn_putR (ci := 0) (k0 := 8) (idx := 37) (by show b < b + 7; omega) (cl_s0 hb) (by decide) (by decide) lf_C_37 rfl (by show b + 6 < b + 7; omega) rfl rfl (by decide +kernel) ?_
  refine wr_aload_n (q := 0) (by decide +kernel) rfl rfl ?_
  refine wr_bipush (n := 40) (v := 40) (by decide +kernel) (by decide) ?_
  refine wn_newI (n := b + 7) (len := 40) (b1 := 3) (b2 := 50) (cl_s7 hb) (h1 _ (by omega) (by omega)) (h2 _ (by omega) (by omega)) (cz 7 (by decide) (by decide) _) (by decide) (by decide) (by decide) rfl rfl (by have := cl_lt hb 10 (by decide); omega) (by decide +kernel) ?_
  refine wn_putR (ci := 0) (k0 := 9) (idx := 40) (by show b < b + 8; omega) (cl_s0 hb) (by decide) (by decide) lf_C_40 rfl (by show b + 7 < b + 8; omega) rfl rfl (by decide +kernel) ?_
  refine wr_aload_n (q := 0) (by decide +kernel) rfl rfl ?_
  refine wr_bipush (n := 40) (v := 40) (by decide +kernel) (by decide) ?_
  refine wn_newI (n := b + 8) (len := 40) (b1 := 2) (b2 := 10) (cl_s8 hb) (h1 _ (by omega) (by omega)) (h2 _ (by omega) (by omega)) (cz 8 (by decide) (by decide) _) (by decide) (by decide) (by decide) rfl rfl (by have := cl_lt hb 10 (by decide); omega) (by decide +kernel) ?_
  refine wn_putR (ci := 0) (k0 := 10) (idx := 43) (by show b < b + 9; omega) (cl_s0 hb) (by decide) (by decide) lf_C_43 rfl (by show b + 8 < b + 9; omega) rfl rfl (by decide +kernel) ?_
  refine wr_aload_n (q := 0) (by decide +kernel) rfl rfl ?_
  refine wr_iconst (n := 5) (v := 5) (by decide +kernel) (by decide) ?_
  refine wn_newI (n := b + 9) (len := 5) (b1 := 1) (b2 := 5) (cl_s9 hb) (h1 _ (by omega) (by omega)) (h2 _ (by omega) (by omega)) (cz 9 (by decide) (by decide) _) (by decide) (by decide) (by decide) rfl rfl (by have := cl_lt hb 10 (by decide); omega) (by decide +kernel) ?_
  refine wn_putR (ci := 0) (k0 := 11) (idx := 46) (by show b < b + 10; omega) (cl_s0 hb) (by decide) (by decide) lf_C_46 rfl (by show b + 9 < b + 10; omega) rfl rfl (by decide +kernel) ?_
  refine wr_aload_n (q := 0) (by decide +kernel) rfl rfl ?_
  refine wr_iconst (n := 5) (v := 5) (by decide +kernel) (by decide) ?_
  refine wn_newI (n := b + 10) (len := 5) (b1 := 0) (b2 := 0) (cl_s10 hb) (h1 _ (by omega) (by omega)) (h2 _ (by omega) (by omega)) (cz 10 (by decide) (by decide) _) (by decide) (by decide) (by decide) rfl rfl (by have := cl_lt hb 10 (by decide); omega) (by decide +kernel) ?_
  refine wn_putR (ci := 0) (k0 := 12) (idx := 49) (by show b < b + 11; omega) (cl_s0 hb) (by decide) (by decide) lf_C_49 rfl (by show b + 10 < b + 11; omega) rfl rfl (by decide +kernel) ?_
  refine wr_ret (r := none) (Or.inl ⟨rfl, (by decide +kernel), rfl⟩) ?_
  show post none (vi, vl, up1 vr b (clF b), sh0, b + 11)
  rw [clF_e hb]; exact hQ
theorem rwF_e {b : Nat} (h : isRw b) : va_up (fun _ => 0) 0 (b + 1 + 1) = vr0 b := by
  funext k
  by_cases hk : k = 0
  · rw [hk, vau_s, rw_v0 h]
  · rw [vau_n hk]
    by_cases hk1 : k = 1
    · rw [hk1]; rcases h with rfl | rfl | rfl | rfl | rfl | rfl | rfl | rfl | rfl | rfl <;> rfl
    · rcases h with rfl | rfl | rfl | rfl | rfl | rfl | rfl | rfl | rfl | rfl <;> exact (vr_out (by show 2 ≤ k; omega)).symm
theorem c_R_init {X : aX} {d : Nat} {post : aO} {vi : Nat → Nat → Int32} {vl : Nat → Nat → Int64} {vr : Nat → Nat → Nat} {b L : Nat} {x : Int32} (hb : isRw b) (hL : rl b = L) (hLl : L ≤ 100) (hx : 0 < x) (hxL : x.toNatClampNeg = L) (h1 : ∀ j, b ≤ j → j ≤ b + 1 → vi j = fun _ => 0) (h2 : ∀ j, b ≤ j → j ≤ b + 1 → vl j = fun _ => 0) (h3 : vr (b + 1) = vr0 (b + 1)) (hQ : post none (up2 vi b 1 (-1), vl, up1 vr b (vr0 b), sh0, b + 2)) : CallOk X (d + 2) 1 L k_R_init [.ref b, .int x] (vi, vl, up1 vr b (fun _ => 0), sh0, b + 1) post := by
  refine CallOk.intro (by decide +kernel) rfl (Nat.le_of_ble_eq_true rfl) ?_
  show wp X (d + 2) k_R_init 1 L 0 [some (.ref b), some (.int x)] [] (vi, vl, up1 vr b (fun _ => 0), sh0, b + 1) post
  refine wr_aload_n (q := 0) (by decide +kernel) rfl rfl ?_
  refine wr_obj (idx := 1) lo_R lo_in lo_co (Nat.le_of_ble_eq_true rfl) (by decide +kernel) ?_
  refine wr_aload_n (q := 0) (by decide +kernel) rfl rfl ?_
  refine wr_iconst (n := -1) (v := -1) (by decide +kernel) (by decide) ?_
  refine wn_putI (ci := 2) (k0 := 1) (idx := 9) (by show b < b + 1; omega) (rw_s0 hb) (by decide) (by decide) lf_R_9 rfl (by decide +kernel) ?_
  refine wr_aload_n (q := 0) (by decide +kernel) rfl rfl ?_
  refine wr_iconst (n := 0) (v := 0) (by decide +kernel) (by decide) ?_
  refine wr_iload_n (q := 1) (by decide +kernel) rfl rfl ?_
  refine wr_mmax (idx := 13) lm2_R_13 (Nat.le_of_ble_eq_true rfl) (by decide +kernel) ?_
  rw [if_pos hx]
  refine wn_newI (n := b + 1) (len := L) (b1 := 0) (b2 := 0) (by rw [rw_s1 hb, hL]) (by rw [up2_n (by omega)]; exact h1 _ (by omega) (by omega)) (h2 _ (by omega) (by omega)) (by rw [up1_n (by omega), h3, rw_z hb]) (fun q => absurd hx (Int32.lt_asymm q)) hxL (by omega) rfl (by omega) (by have := rw_lt1 hb; omega) (by decide +kernel) ?_
  refine wn_putR (ci := 2) (k0 := 0) (idx := 19) (by show b < b + 2; omega) (rw_s0 hb) (by decide) (by decide) lf_R_19 rfl (by show b + 1 < b + 2; omega) rfl rfl (by decide +kernel) ?_
  refine wr_ret (r := none) (Or.inl ⟨rfl, (by decide +kernel), rfl⟩) ?_
  show post none (up2 vi b 1 (-1), vl, up1 vr b (va_up (fun _ => 0) 0 (b + 1 + 1)), sh0, b + 2)
  rw [rwF_e hb]; exact hQ
def plF : Nat → Nat := (va_up (va_up (va_up (va_up (fun _ => 0) 0 (27 + 1)) 1 (38 + 1)) 2 (39 + 1)) 7 (40 + 1))
theorem plF_e : plF = vr0 26 := by
  funext k
  by_cases hk : k < 8
  · have key : ∀ k, k < 8 → plF k = vr0 26 k := by decide
    exact key k hk
  · have e : plF k = 0 := by
      unfold plF
      rw [vau_n (by omega), vau_n (by omega), vau_n (by omega), vau_n (by omega)]
    rw [e]; exact (vr_out (by show 8 ≤ k; omega)).symm
theorem c_P_init {X : aX} {d : Nat} {post : aO} {vi : Nat → Nat → Int32} {vl : Nat → Nat → Int64} {vr : Nat → Nat → Nat} (h1 : ∀ j, 26 ≤ j → j ≤ 40 → vi j = fun _ => 0) (h2 : ∀ j, 26 ≤ j → j ≤ 40 → vl j = fun _ => 0) (h3 : ∀ j, 27 ≤ j → j ≤ 40 → vr j = vr0 j) (hQ : post none (vi, vl, up1 vr 26 (vr0 26), sh0, 41)) : CallOk X (d + 3) 14 192 k_P_init [.ref 26] (vi, vl, up1 vr 26 (fun _ => 0), sh0, 27) post := by
  refine CallOk.intro (by decide +kernel) rfl (Nat.le_of_ble_eq_true rfl) ?_
  show wp X (d + 3) k_P_init 14 192 0 [some (.ref 26)] [] (vi, vl, up1 vr 26 (fun _ => 0), sh0, 27) post
  refine wr_aload_n (q := 0) (by decide +kernel) rfl rfl ?_
  refine wr_obj (idx := 3) lo_P lo_in lo_co (Nat.le_of_ble_eq_true rfl) (by decide +kernel) ?_
  refine wr_aload_n (q := 0) (by decide +kernel) rfl rfl ?_
  refine wn_new (n := 27) (ci := 0) (idx := 9) (b1 := 13) (b2 := 179) sq_27 (h1 27 (by decide) (by decide)) (h2 27 (by decide) (by decide)) (by decide) lc_P_9 ln_0 ly_0 rfl rfl (by decide) (by decide +kernel) ?_
  refine wr_dup (by decide +kernel) rfl ?_
  refine wr_invIN (mid2 := 2) (n := 0) (a := 27) (as := []) (st := [.ref 27, .ref 26]) (idx := 11) (b1 := 3) (b2 := 15) (c1 := 10) (c2 := 164) (host := "SewnAhead") pl_2 rfl (Nat.le_of_ble_eq_true rfl) rfl rfl (by show 27 < 28; decide) (by decide +kernel) im_2 rfl rfl (by decide +kernel) ?_
  refine c_C_init isCl_27 (fun j a b => h1 j (by omega) (by omega)) (fun j a b => h2 j (by omega) (by omega)) (fun j a b => by rw [up1_n (by omega)]; exact h3 j (by omega) (by omega)) ?_
  rw [up1_e (show up1 vr 26 (fun _ => 0) 27 = vr0 27 by rw [up1_n (by decide)]; exact h3 27 (by decide) (by decide))]
  refine wn_putR (ci := 1) (k0 := 0) (idx := 12) (by decide) sq_26 (by decide) (by decide) lf_P_12 rfl (by decide) rfl rfl (by decide +kernel) ?_
  refine wr_aload_n (q := 0) (by decide +kernel) rfl rfl ?_
  refine wr_iconst (n := 5) (v := 5) (by decide +kernel) (by decide) ?_
  refine wn_newI (n := 38) (len := 5) (b1 := 2) (b2 := 10) sq_38 (h1 _ (by decide) (by decide)) (h2 _ (by decide) (by decide)) (by rw [up1_n (by decide), h3 38 (by decide) (by decide)]; exact vr_z rfl) (by decide) (by decide) (by decide) rfl rfl (by decide) (by decide +kernel) ?_
  refine wn_putR (ci := 1) (k0 := 1) (idx := 18) (by decide) sq_26 (by decide) (by decide) lf_P_18 rfl (by decide) rfl rfl (by decide +kernel) ?_
  refine wr_aload_n (q := 0) (by decide +kernel) rfl rfl ?_
  refine wr_iconst (n := 5) (v := 5) (by decide +kernel) (by decide) ?_
  refine wn_newI (n := 39) (len := 5) (b1 := 1) (b2 := 5) sq_39 (h1 _ (by decide) (by decide)) (h2 _ (by decide) (by decide)) (by rw [up1_n (by decide), h3 39 (by decide) (by decide)]; exact vr_z rfl) (by decide) (by decide) (by decide) rfl rfl (by decide) (by decide +kernel) ?_
  refine wn_putR (ci := 1) (k0 := 2) (idx := 22) (by decide) sq_26 (by decide) (by decide) lf_P_22 rfl (by decide) rfl rfl (by decide +kernel) ?_
  refine wr_aload_n (q := 0) (by decide +kernel) rfl rfl ?_
  refine wr_iconst (n := 0) (v := 0) (by decide +kernel) (by decide) ?_
  refine wn_putI0 (ci := 1) (k0 := 3) (idx := 25) (by rw [h1 26 (by decide) (by decide)]) (by decide) sq_26 (by decide) (by decide) lf_P_25 rfl (by decide +kernel) ?_
  refine wr_aload_n (q := 0) (by decide +kernel) rfl rfl ?_
  refine wr_iconst (n := 0) (v := 0) (by decide +kernel) (by decide) ?_
  refine wn_putZ0 (ci := 1) (k0 := 4) (idx := 29) (by rw [h1 26 (by decide) (by decide)]) (by decide) sq_26 (by decide) (by decide) lf_P_29 rfl (by decide +kernel) ?_
  refine wr_aload_n (q := 0) (by decide +kernel) rfl rfl ?_
  refine wr_iconst (n := 0) (v := 0) (by decide +kernel) (by decide) ?_
  refine wn_putZ0 (ci := 1) (k0 := 5) (idx := 33) (by rw [h1 26 (by decide) (by decide)]) (by decide) sq_26 (by decide) (by decide) lf_P_33 rfl (by decide +kernel) ?_
  refine wr_aload_n (q := 0) (by decide +kernel) rfl rfl ?_
  refine wr_iconst (n := 0) (v := 0) (by decide +kernel) (by decide) ?_
  refine wn_putI0 (ci := 1) (k0 := 6) (idx := 36) (by rw [h1 26 (by decide) (by decide)]) (by decide) sq_26 (by decide) (by decide) lf_P_36 rfl (by decide +kernel) ?_
  refine wr_aload_n (q := 0) (by decide +kernel) rfl rfl ?_
  refine wr_iconst (n := 5) (v := 5) (by decide +kernel) (by decide) ?_
  refine wn_newI (n := 40) (len := 5) (b1 := 0) (b2 := 0) sq_40 (h1 _ (by decide) (by decide)) (h2 _ (by decide) (by decide)) (by rw [up1_n (by decide), h3 40 (by decide) (by decide)]; exact vr_z rfl) (by decide) (by decide) (by decide) rfl rfl (by decide) (by decide +kernel) ?_
  refine wn_putR (ci := 1) (k0 := 7) (idx := 39) (by decide) sq_26 (by decide) (by decide) lf_P_39 rfl (by decide) rfl rfl (by decide +kernel) ?_
  refine wr_ret (r := none) (Or.inl ⟨rfl, (by decide +kernel), rfl⟩) ?_
  show post none (vi, vl, up1 vr 26 plF, sh0, 41)
  rw [plF_e]; exact hQ
