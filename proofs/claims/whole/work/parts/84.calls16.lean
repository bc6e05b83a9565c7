/-! THE CALLS, further: best, first, gap -/
theorem le5 {c : Nat} (hc : c < 1000) : nI c ≤ 5 ↔ c ≤ 5 := ⟨fun z => Nat.le_of_not_lt (fun q => nI_ge (a := 5) (b := c) q (by omega) z), fun z => (nI_le z (by omega) : nI c ≤ nI 5)⟩
theorem opl_len (t : aT) (n : Nat) : (opL t n).length ≤ n := nd_len _ _ (opL_nd t n) (fun x hx => ((opL_mem t x n).mp hx).1)
theorem ca_best {m : mj_m} (h : Rel m) {N : Nat} (hN : 1100 ≤ N) (v : Int32) : BothL (f_X8_best N v) (f_X9_best N v) m := by
  obtain ⟨t, u, h1⟩ := h.1
  have hG := h1.1
  have gh := GH hG
  have ol := opl_len t (t 13 1)
  have h6 := RT_rfu h1 6
  rcases yrs8 N v m with y | ⟨n, n1, n2, rfl, y⟩
  · refine ⟨(-6 : Int32).toInt64, rfu m 6, _, ?_, ?_, Rel_rf h 6⟩
    · unfold f_X8_best f_X8_best_18; rw [y, bind_some', if_pos rfl, rf8_6]; rfl
    · unfold f_X9_best f_X9_best_16; rw [yrs9 N v m, y, bind_some', if_pos rfl, rf9_6]; rfl
  by_cases q : (opL t (t 13 1)).length ≤ 5
  · obtain ⟨m1, l, B, a1, a2, a3, a4, a5, a6, a7⟩ := least8 hG h1.2.1 q n2 hN
    have e1 := Pd_E a7
    have r1 : RT m1 t u := RT_S h1 e1
    obtain ⟨m2, b1, b2, b3, b4⟩ := bests9 hG r1.2.2 q n2 hN a2
    refine ⟨l, m1, m2, ?_, ?_, Rel_S h (Eqs_t e1 (Ft_E b4))⟩
    · unfold f_X8_best; rw [y, bind_some', if_neg (by decide), fresh8 hG h1.2.1 (by omega), bind_some', if_pos ((le5 (by omega)).mpr q), a1]; rfl
    · unfold f_X9_best; rw [yrs9 N (nI n) m, y, bind_some', if_neg (by decide), fresh9 hG r1.2.2 (by omega), bind_some', if_pos ((le5 (by omega)).mpr q), b1, bind_some', b2]
  · refine ⟨(-6 : Int32).toInt64, rfu m 6, _, ?_, ?_, Rel_rf h 6⟩
    · unfold f_X8_best f_X8_best_18; rw [y, bind_some', if_neg (by decide), fresh8 hG h1.2.1 (by omega), bind_some', if_neg (fun z => q ((le5 (by omega)).mp z)), rf8_6]; rfl
    · unfold f_X9_best f_X9_best_16; rw [yrs9 N (nI n) m, y, bind_some', if_neg (by decide), fresh9 hG h6.2.2 (by omega), bind_some', if_neg (fun z => q ((le5 (by omega)).mp z)), rf9_6]; rfl
theorem upto {v : Int32} {c : Nat} (hc : c < 1000) (h0 : ¬ v < 0) : ¬ v < nI c ∨ ∃ i, i < c ∧ v = nI i ∧ v < nI c := by
  by_cases q : v < nI c
  · obtain ⟨k, hk, e⟩ := bnd (v := v) (c := nI c) (n := c) rfl (by omega) h0 (Int32.not_le.mpr q)
    exact Or.inr ⟨k, hk, e, q⟩
  · exact Or.inl q
theorem ca_first {m : mj_m} (h : Rel m) {N : Nat} (hN : 1100 ≤ N) (v w : Int32) : Both (f_X8_first N v w) (f_X9_first N v w) m := by
  obtain ⟨t, u, h1⟩ := h.1
  have hG := h1.1
  have gh := GH hG
  have ol := opl_len t (t 13 1)
  have h5 := RT_rfu h1 5
  have h6 := RT_rfu h1 6
  have f8 := fresh8 hG h1.2.1 (N := N) (by omega)
  by_cases q0 : w < 0
  · refine ⟨-5, rfu m 5, _, ?_, ?_, Rel_rf h 5⟩
    · unfold f_X8_first f_X8_first_17; rw [f8, bind_some', if_pos q0, rf8_5]; rfl
    · unfold f_X9_first f_X9_first_12; rw [if_pos q0, rf9_5]; rfl
  rcases upto (v := w) (c := (opL t (t 13 1)).length) (by omega) q0 with q1 | ⟨i, hi, rfl, q1⟩
  · refine ⟨-5, rfu m 5, _, ?_, ?_, Rel_rf h 5⟩
    · unfold f_X8_first f_X8_first_17; rw [f8, bind_some', if_neg q0, if_neg q1, rf8_5]; rfl
    · unfold f_X9_first f_X9_first_12; rw [if_neg q0, fresh9 hG h5.2.2 (by omega), bind_some', if_neg q1, rf9_5]; rfl
  rcases yrs8 N v m with y | ⟨n, n1, n2, rfl, y⟩
  · refine ⟨-6, rfu m 6, _, ?_, ?_, Rel_rf h 6⟩
    · unfold f_X8_first f_X8_first_35; rw [f8, bind_some', if_neg q0, if_pos q1, y, bind_some', if_pos rfl, rf8_6]; rfl
    · unfold f_X9_first f_X9_first_35; rw [if_neg q0, fresh9 hG h6.2.2 (by omega), bind_some', if_pos q1, yrs9 N v m, y, bind_some', if_pos rfl, rf9_6]; rfl
  by_cases q : (opL t (t 13 1)).length ≤ 5
  · obtain ⟨m1, l, B, a1, a2, a3, a4, a5, a6, a7⟩ := least8 hG h1.2.1 q n2 hN
    obtain ⟨p1, p2, p3⟩ := okP_use a4
    have e1 := Pd_E a7
    have r1 : RT m1 t u := RT_S h1 e1
    have f9 := fresh9 hG r1.2.2 (N := N) (by omega)
    obtain ⟨m2, b1, b2, b3, b4⟩ := bests9 hG r1.2.2 q n2 hN a2
    have bi := p2 _ (gd_mem (L := B) (i := i) (by omega))
    refine ⟨nI (gd (opL t (t 13 1)) (gd B i)), m1, m2, ?_, ?_, Rel_S h (Eqs_t e1 (Ft_E b4))⟩
    · unfold f_X8_first; rw [f8, bind_some', if_neg q0, if_pos q1, y, bind_some', if_neg (by decide), if_pos ((le5 (by omega)).mpr q), a1, bind_some']
      unfold f_X4_placeOfBest
      dsimp only
      rw [if_neg q0, a5, if_neg (nI_ge hi (by omega)), mj_ck_t (bb_53 (by omega)), nI_clamp (by omega), a3 i (by omega), mj_ck_t (bb_51 (by omega)), nI_clamp (by omega), a6 _ bi]; rfl
    · unfold f_X9_first; rw [if_neg q0, f9, bind_some', if_pos q1, yrs9 N (nI n) m, y, bind_some', if_neg (by decide), bind_some', if_pos ((le5 (by omega)).mpr q), b1, bind_some', mj_ck_t (bb_125 (by omega)), nI_clamp (by omega), b3 i hi]
  · refine ⟨-6, rfu m 6, _, ?_, ?_, Rel_rf h 6⟩
    · unfold f_X8_first f_X8_first_35; rw [f8, bind_some', if_neg q0, if_pos q1, y, bind_some', if_neg (by decide), if_neg (fun z => q ((le5 (by omega)).mp z)), rf8_6]; rfl
    · unfold f_X9_first f_X9_first_35; rw [if_neg q0, fresh9 hG h6.2.2 (by omega), bind_some', if_pos q1, yrs9 N (nI n) m, y, bind_some', if_neg (by decide), bind_some', if_neg (fun z => q ((le5 (by omega)).mp z)), rf9_6]; rfl
theorem ca_gap {m : mj_m} (h : Rel m) {N : Nat} (hN : 1100 ≤ N) (v w : Int32) : BothL (f_X8_gap N v w) (f_X9_gap N v w) m := by
  rcases lkP (RS_of h) N v w with ⟨r, r1, r2, a1, a2⟩ | ⟨a1, a2, a3⟩ | ⟨s, k, a, n, hs, rfl, n1, n2, rfl, b, a1, a2, a3⟩
  · rcases (show r = 1 ∨ r = 2 ∨ r = 3 by omega) with rfl | rfl | rfl
    · refine ⟨-1000001, rfu m 1, _, ?_, ?_, Rel_rf h 1⟩
      · unfold f_X8_gap f_X8_gap_25; rw [a1, bind_some', if_neg (by decide), if_neg (by decide), show f_X8_refuseFar N (nI 1) m = _ from rl8_1 N m]; rfl
      · unfold f_X9_gap; rw [a2 (rfu m 1) (rfu110 m 1), bind_some', if_neg (by decide), show f_X9_noLow N (-nI 1) (rfu m 1) = _ from rl9_1 N (rfu m 1)]; rfl
    · refine ⟨-1000002, rfu m 2, _, ?_, ?_, Rel_rf h 2⟩
      · unfold f_X8_gap f_X8_gap_25; rw [a1, bind_some', if_neg (by decide), if_neg (by decide), show f_X8_refuseFar N (nI 2) m = _ from rl8_2 N m]; rfl
      · unfold f_X9_gap; rw [a2 (rfu m 2) (rfu110 m 2), bind_some', if_neg (by decide), show f_X9_noLow N (-nI 2) (rfu m 2) = _ from rl9_2 N (rfu m 2)]; rfl
    · refine ⟨-1000003, rfu m 3, _, ?_, ?_, Rel_rf h 3⟩
      · unfold f_X8_gap f_X8_gap_25; rw [a1, bind_some', if_neg (by decide), if_neg (by decide), show f_X8_refuseFar N (nI 3) m = _ from rl8_3 N m]; rfl
      · unfold f_X9_gap; rw [a2 (rfu m 3) (rfu110 m 3), bind_some', if_neg (by decide), show f_X9_noLow N (-nI 3) (rfu m 3) = _ from rl9_3 N (rfu m 3)]; rfl
  · refine ⟨-1000006, rfu m 6, _, ?_, ?_, Rel_rf h 6⟩
    · unfold f_X8_gap f_X8_gap_25; rw [a1, bind_some', if_neg (by decide), if_neg (by decide), rl8_6]; rfl
    · unfold f_X9_gap f_X9_gap_34; rw [a2 (rfu m 6) (rfu110 m 6), bind_some', if_pos rfl, a3, bind_some', if_pos rfl, rl9_6]; rfl
  obtain ⟨t, u, h1⟩ := h.1
  have hG := h1.1
  have gh := GH hG
  have ol := opl_len t (t 13 1)
  have h6 := RT_rfu h1 6
  have f8 := fresh8 hG h1.2.1 (N := N) (by omega)
  by_cases q : (opL t (t 13 1)).length ≤ 5
  · obtain ⟨e, n', ru⟩ := Ru_of b
    obtain ⟨m1, x1, x2⟩ := lossRule8 hG h1.2.1 hs ru n2 hN
    obtain ⟨m2, l, B, d1, d2, d3, d4, d5, d6, d7⟩ := least8 hG (Pd_c hG h1.2.1 x2) q n2 hN
    have e1 := Pd_E (Pd_t x2 d7)
    have r1 : RT m2 t u := RT_S h1 e1
    obtain ⟨m3, y1, y2, y3, y4⟩ := rowBy9 hG r1.2.2 hs (Ru_A hs ru e1) hN
    have r2 : RT m3 t u := RT_S r1 y4
    have ll := ordL_len gh k a e n'
    obtain ⟨m4, z1, z2, z3⟩ := planned9 hG (ordL_ok gh k a e n').2 (by omega) r2.2.2 y2 y3 n2 hN
    have r3 : RT m4 t u := RT_S r2 (Fp_E z3)
    obtain ⟨m5, b1, b2, b3, b4⟩ := bests9 hG r3.2.2 q n2 hN d2
    refine ⟨lsY t (ordL t k a e n') (s0Y t u) n - l, m2, m5, ?_, ?_, Rel_S h (Eqs_t e1 (Eqs_t y4 (Eqs_t (Fp_E z3) (Ft_E b4))))⟩
    · unfold f_X8_gap f_X8_gap_25; rw [a1, bind_some', if_pos rfl, f8, bind_some', if_pos ((le5 (by omega)).mpr q), if_pos rfl, mj_ck_t (bb_35 hs), nI_clamp (by omega), x1, bind_some', d1]; rfl
    · unfold f_X9_gap; rw [a2 m2 (E110 e1), bind_some', if_pos rfl, a3, bind_some', if_neg (by decide), fresh9 hG r1.2.2 (by omega), bind_some', if_pos ((le5 (by omega)).mpr q), y1, bind_some', z1, bind_some', b1, bind_some', b2]
  · refine ⟨-1000006, rfu m 6, _, ?_, ?_, Rel_rf h 6⟩
    · unfold f_X8_gap f_X8_gap_25; rw [a1, bind_some', if_pos rfl, f8, bind_some', if_neg (fun z => q ((le5 (by omega)).mp z)), if_neg (by decide), rl8_6]; rfl
    · unfold f_X9_gap f_X9_gap_34; rw [a2 (rfu m 6) (rfu110 m 6), bind_some', if_pos rfl, a3, bind_some', if_neg (by decide), fresh9 hG h6.2.2 (by omega), bind_some', if_neg (fun z => q ((le5 (by omega)).mp z)), rl9_6]; rfl
