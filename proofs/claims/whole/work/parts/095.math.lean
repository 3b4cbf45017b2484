section R6
variable {X : aX} {d mid bc bs pc : Nat} {ls : aL} {st : List Value} {N : aN} {post : aO}
theorem mm_cmax : Cond.code Lib.Math.max.name Lib.Math.max.code 2 (some .int) ∈ am_big := am_at 125 (by decide +kernel) rfl
theorem mm_smax : Cond.static Lib.Math.max.name ∈ am_big := am_at 124 (by decide +kernel) rfl
theorem wr_mmax {idx : Nat} {x y : Int32} (hli : Cond.methodLink (am_y mid).cls idx Lib.Math.max.name ∈ am_big) (hst : (st.map fun v => v.category).sum ≤ 8) (hd : decode (am_c mid) pc = .ok (.invokestatic idx, 3)) (k : wp X (d + 1) mid bc bs (pc + 3) ls (.int (if x < y then y else x) :: st) N post) : wp X (d + 1) mid bc bs pc ls (.int y :: .int x :: st) N post := by
  intro G p l e R s m args below meth c mc ms Q hC hK hR hret H locs cells slots lsr hW hS hc hs hl hn
  obtain ⟨hx, hb, hml, hown, hts, hnm, hdf, hdl⟩ := id hC
  have hsum : ((st.map (rV G)).map fun v => v.category).sum ≤ 8 := by
    rw [List.map_map, show ((fun v => Value.category v) ∘ rV G) = fun v => v.category from funext fun v => rV_cat G v]
    exact hst
  exact va_mmax hx hb (hml.trans hl.1.symm) hown (hts _ hli) (hts _ mm_smax) (hts _ in_java_lang_Math) (hts _ mm_cmax) (by omega) (by omega) (by omega) (by omega) hd (k G p l e R s m args below meth c mc ms Q hC hK hR hret H locs cells slots lsr hW hS hc hs hl hn)
theorem mm_cmin : Cond.code Lib.Math.min.name Lib.Math.min.code 2 (some .int) ∈ am_big := am_at 188 (by decide +kernel) rfl
theorem mm_smin : Cond.static Lib.Math.min.name ∈ am_big := am_at 187 (by decide +kernel) rfl
theorem wr_mmin {idx : Nat} {x y : Int32} (hli : Cond.methodLink (am_y mid).cls idx Lib.Math.min.name ∈ am_big) (hst : (st.map fun v => v.category).sum ≤ 8) (hd : decode (am_c mid) pc = .ok (.invokestatic idx, 3)) (k : wp X (d + 1) mid bc bs (pc + 3) ls (.int (if y < x then y else x) :: st) N post) : wp X (d + 1) mid bc bs pc ls (.int y :: .int x :: st) N post := by
  intro G p l e R s m args below meth c mc ms Q hC hK hR hret H locs cells slots lsr hW hS hc hs hl hn
  obtain ⟨hx, hb, hml, hown, hts, hnm, hdf, hdl⟩ := id hC
  have hsum : ((st.map (rV G)).map fun v => v.category).sum ≤ 8 := by
    rw [List.map_map, show ((fun v => Value.category v) ∘ rV G) = fun v => v.category from funext fun v => rV_cat G v]
    exact hst
  exact va_mmin hx hb (hml.trans hl.1.symm) hown (hts _ hli) (hts _ mm_smin) (hts _ in_java_lang_Math) (hts _ mm_cmin) (by omega) (by omega) (by omega) (by omega) hd (k G p l e R s m args below meth c mc ms Q hC hK hR hret H locs cells slots lsr hW hS hc hs hl hn)
theorem lm2_R_13 : Cond.methodLink "SewnAhead$Row" 13 Lib.Math.max.name ∈ am_big := am_at 123 (by decide +kernel) rfl
theorem lm2_R_23 : Cond.methodLink "SewnAhead$Row" 23 Lib.Math.min.name ∈ am_big := am_at 186 (by decide +kernel) rfl
theorem lm2_C_97 : Cond.methodLink "SewnAhead$Cloth" 97 Lib.Math.max.name ∈ am_big := am_at 358 (by decide +kernel) rfl
end R6
