/-! THE CALLS, further: houseOf, status, holds, element, set, row -/
theorem ca_houseOf {m : mj_m} (h : Rel m) (N : Nat) (v w : Int32) : Both (f_X8_houseOf N v w) (f_X9_houseOf N v w) m := by
  obtain ⟨t, u, h1⟩ := h.1
  have hH := RT_nH h1
  have h2 := RT_rfu h1 5
  rcases isH8 h1 N v with ⟨a1, a2⟩ | ⟨k, hk, rfl, a1⟩
  · refine ⟨-5, rfu m 5, _, ?_, ?_, Rel_rf h 5⟩
    · unfold f_X8_houseOf; rw [a1, bind_some', if_pos rfl, rf8_5]; rfl
    · unfold f_X9_houseOf f_X9_houseOf_18; rw [isH9_n h2 N a2, bind_some', if_pos rfl, rf9_5]; rfl
  have ck : (nI k).toNatClampNeg = k := nI_clamp (by omega)
  by_cases q : ¬ w < 0 ∧ ¬ 8 < w
  · obtain ⟨j, -, hj, rfl⟩ := mid (a := 0) (b := 8) q.1 q.2 (by decide)
    have q8 : nI j ≤ 8 := (nI_le hj (by decide) : nI j ≤ nI 8)
    have ok : ∃ x, f_X8_houseOf N (nI k) (nI j) m = some (x, m) ∧ f_X9_houseOf N (nI k) (nI j) m = some (x, m) := by
      unfold f_X8_houseOf f_X9_houseOf
      rw [a1, isH9' h1 N hk, bind_some', bind_some', if_neg (show ¬ (1 : Int32) = 0 by decide), if_neg (show ¬ (1 : Int32) = 0 by decide), if_neg q.1, if_pos q8, mj_ck_t (bb_4 (by omega)), mj_ck_t (bb_5 (by omega)), mj_ck_t (bb_101 (by omega)), mj_ck_t (bb_102 (by omega)), mj_ck_t (bb_103 (by omega)), mj_ck_t (bb_104 (by omega)), mj_ck_t (bb_105 (by omega)), mj_ck_t (bb_106 (by omega)), mj_ck_t (bb_107 (by omega)), mj_ck_t (bb_108 (by omega)), mj_ck_t (bb_109 (by omega)), ck]
      rw [m_corner h1 hk, m_weak h1 hk, m_day h1 hk, m_night h1 hk, m_cost h1 hk, m_front h1 hk, m_next h1 hk, m_steps h1 hk, m_prop h1 hk, c_corner h1 hk, c_weak h1 hk, c_day h1 hk, c_night h1 hk, c_cost h1 hk, c_front h1 hk, c_next h1 hk, c_steps h1 hk, c_prop h1 hk]
      have hp : t 8 k ≤ 1 := (h1.1.2.1 k hk).2.2.2.2.2.2.2.2
      rcases (by omega : j = 0 ∨ j = 1 ∨ j = 2 ∨ j = 3 ∨ j = 4 ∨ j = 5 ∨ j = 6 ∨ j = 7 ∨ j = 8) with rfl | rfl | rfl | rfl | rfl | rfl | rfl | rfl | rfl
      · exact ⟨_, rfl, rfl⟩
      · exact ⟨_, rfl, rfl⟩
      · exact ⟨_, rfl, rfl⟩
      · exact ⟨_, rfl, rfl⟩
      · exact ⟨_, rfl, rfl⟩
      · exact ⟨_, rfl, rfl⟩
      · exact ⟨_, rfl, rfl⟩
      · exact ⟨_, rfl, rfl⟩
      · rcases (by omega : t 8 k = 0 ∨ t 8 k = 1) with e | e
        · rw [e]; exact ⟨_, rfl, rfl⟩
        · rw [e]; exact ⟨_, rfl, rfl⟩
    obtain ⟨x, r1, r2⟩ := ok
    exact ⟨x, m, m, r1, r2, h⟩
  · have n8 : ∀ j : Nat, j ≤ 8 → w ≠ nI j := by
      rintro j hj rfl
      exact q ⟨nI_pos (by omega), (nI_nlt hj (by decide) : ¬ nI 8 < nI j)⟩
    refine ⟨-5, rfu m 5, _, ?_, ?_, Rel_rf h 5⟩
    · unfold f_X8_houseOf
      rw [a1, bind_some', if_neg (by decide), mj_ck_t (bb_4 (by omega)), if_neg (show ¬ w = 0 from n8 0 (by omega)), if_neg (show ¬ w = 1 from n8 1 (by omega)), if_neg (show ¬ w = 2 from n8 2 (by omega)), if_neg (show ¬ w = 3 from n8 3 (by omega)), if_neg (show ¬ w = 4 from n8 4 (by omega)), if_neg (show ¬ w = 5 from n8 5 (by omega)), if_neg (show ¬ w = 6 from n8 6 (by omega)), if_neg (show ¬ w = 7 from n8 7 (by omega)), if_neg (show ¬ w = 8 from n8 8 (by omega)), rf8_5]; rfl
    · have z : f_X9_houseOf_18 N (rfu m 5) = some (-5, rfm (rfu m 5) 5) := by unfold f_X9_houseOf_18; rw [rf9_5]; rfl
      unfold f_X9_houseOf
      rw [z, isH9' h2 N hk, bind_some', if_neg (by decide)]
      by_cases p : w < 0
      · rw [if_pos p]
      · rw [if_neg p, if_neg]
        intro p2
        exact q ⟨p, fun p3 => by rw [Int32.le_iff_toInt_le] at p2; rw [Int32.lt_iff_toInt_lt] at p3; omega⟩
/-- a sum over the houses, in either loop's form -/
def sumI (f : Nat → Int32) : Nat → Int32
  | 0 => 0
  | n + 1 => sumI f n + f n
theorem allSteps8 {m : mj_m} {t : aT} {u : Nat → Int32} (h : RT m t u) {N : Nat} (hN : 20 ≤ N) : f_X7_allSteps N m = some (sumI (fun i => nI (t 7 i)) (t 13 1)) := by
  have hH := RT_nH h
  unfold f_X7_allSteps
  refine lp_for (fun i => (sumI (fun i => nI (t 7 i)) i, nI i)) (c := t 13 1) (by omega) (fun i hi k => ?_) (fun k => ?_)
  · show (if m.1 1 7 ≤ nI i then _ else _) = _
    rw [c_houses h, if_neg (nI_ge hi (by omega)), mj_ck_t (bb_5 (by omega)), nI_clamp (by omega)]
    show k (sumI _ i + m.1 5 i, nI i + 1) = _
    rw [c_steps h hi, ← nI_succ]; rfl
  · show (if m.1 1 7 ≤ nI (t 13 1) then _ else _) = _
    rw [c_houses h, if_pos (nI_le (by omega) (by omega))]
theorem allSteps9 {m : mj_m} {t : aT} {u : Nat → Int32} (h : RT m t u) {N : Nat} (hN : 20 ≤ N) : mj_lp N (f_X9_status_93 N m) (0, 0) = some (sumI (fun i => nI (t 7 i)) (t 13 1)) := by
  have hH := RT_nH h
  refine lp_for (fun i => (sumI (fun i => nI (t 7 i)) i, nI i)) (c := t 13 1) (by omega) (fun i hi k => ?_) (fun k => ?_)
  · show (if m.1 95 1 ≤ nI i then _ else _) = _
    rw [m_houses h, if_neg (nI_ge hi (by omega)), mj_ck_t (bb_108 (by omega)), nI_clamp (by omega)]
    show k (sumI _ i + m.1 108 i, nI i + 1) = _
    rw [m_steps h hi, ← nI_succ]; rfl
  · show (if m.1 95 1 ≤ nI (t 13 1) then _ else _) = _
    rw [m_houses h, if_pos (nI_le (by omega) (by omega))]
theorem ca_status {m : mj_m} (h : Rel m) {N : Nat} (hN : 20 ≤ N) (v : Int32) : ∃ x, f_X8_status N v m = some x ∧ f_X9_status N v m = some x := by
  obtain ⟨⟨t, u, h1⟩, -, -, h4, -, ⟨n, hn, a1, a2, -⟩, -⟩ := h
  have e : f_X9_status_22 N v m = f_X8_status_22 N v m := by
    unfold f_X8_status_22 f_X9_status_22
    rw [allSteps8 h1 hN, allSteps9 h1 hN, c_streets h1, m_streets h1, c_houses h1, m_houses h1, c_shakes h1, m_shakes h1, c_purse h1, m_purse h1, c_year h1, m_year h1, c_gone h1, m_gone h1, c_seed h1, m_seed h1, a1, a2]
    rfl
  have some22 : ∃ x, f_X8_status_22 N v m = some x := by
    unfold f_X8_status_22
    rw [allSteps8 h1 hN]
    repeat' split
    all_goals exact ⟨_, rfl⟩
  obtain ⟨x, hx⟩ := some22
  unfold f_X8_status f_X9_status
  rw [e, hx]
  by_cases q : v ≤ 10
  · refine ⟨x, if_pos q, ?_⟩
    rw [if_pos]
    rw [Int32.le_iff_toInt_le] at q
    rw [Int32.lt_iff_toInt_lt]
    have q1 : (10 : Int32).toInt = 10 := by decide
    have q2 : (11 : Int32).toInt = 11 := by decide
    omega
  · have q' : ¬ v < 11 := by
      rw [Int32.le_iff_toInt_le] at q
      rw [Int32.lt_iff_toInt_lt]
      have q1 : (10 : Int32).toInt = 10 := by decide
      have q2 : (11 : Int32).toInt = 11 := by decide
      omega
    rw [if_neg q, if_neg q']
    by_cases r : 17 < v
    · exact ⟨x, if_pos r, if_pos r⟩
    · rw [if_neg r, if_neg r]
      obtain ⟨j, j1, j2, rfl⟩ := mid (a := 11) (b := 17) q' r (by decide)
      obtain ⟨i, rfl⟩ : ∃ i, j = i + 10 := ⟨j - 10, by omega⟩
      have e2 : nI (i + 10) - 10 = nI i := by
        rw [← nI_add]; exact Int32.add_sub_cancel _ _
      rw [e2, mj_ck_t (bb_77 (by omega)), mj_ck_t (bb_96 (by omega)), nI_clamp (by omega)]
      exact ⟨_, rfl, by rw [h4 i (by omega)]⟩
theorem ca_holds {m : mj_m} (h : Rel m) (N : Nat) (v : Int32) : ∃ x, f_X8_holds N v m = some x ∧ f_X9_holds N v m = some x := by
  have h5 := h.2.2.2.2.1
  rcases isSh N v m with a | ⟨s, hs, rfl, a⟩
  · exact ⟨-1, by unfold f_X8_holds; rw [a]; rfl, by unfold f_X9_holds; rw [isSh9 N v m, a]; rfl⟩
  · refine ⟨m.1 (79 + 2 * s) 1, ?_, ?_⟩
    · unfold f_X8_holds; rw [a, bind_some', if_neg (by decide), mj_ck_t (bb_35 hs), nI_clamp (by omega)]
    · unfold f_X9_holds
      rw [isSh9 N _ m, a, bind_some', if_neg (by decide), mj_ck_t (bb_110 hs), mj_ck_t (bb_111 hs), mj_ck_t (bb_113 hs), nI_clamp (by omega)]
      rcases sh_cases (h5 s hs) with b | ⟨o, n, b⟩ | ⟨k, c, b⟩
      · rw [b.1, if_pos rfl, b.2.1]
      · rw [b.2.2.1, if_neg (by decide), if_pos rfl, b.2.2.2.1, b.2.2.2.2.2.1]; exact congrArg some (nI_add 100 o)
      · rw [b.2.1, if_neg (by decide), if_neg (by decide), b.2.2.1, b.2.2.2.1]
theorem ca_element {m : mj_m} (h : Rel m) (N : Nat) (v w : Int32) : ∃ x, f_X8_element N v w m = some x ∧ f_X9_element N v w m = some x := by
  have h5 := h.2.2.2.2.1
  rcases isSh N v m with a | ⟨s, hs, rfl, a⟩
  · exact ⟨0, by unfold f_X8_element; rw [a]; rfl, by unfold f_X9_element; rw [isSh9 N v m, a]; rfl⟩
  have q8 : f_X8_element N (nI s) w m = (f_X6_isRow N (79 + 2 * s) m).bind (fun r4 => if r4 = 0 then (some 0) else ((f_X6_has N (79 + 2 * s) w m).bind (fun r6 => if r6 = 0 then (some 0) else (mj_ck (mj_b 1 ((79 + 2 * s) + 1) w) ( some (m.2 ((79 + 2 * s) + 1) w.toNatClampNeg)))))) := by
    unfold f_X8_element; rw [a, bind_some', if_neg (by decide), mj_ck_t (bb_35 hs), nI_clamp (by omega)]
  have q9 : f_X9_element N (nI s) w m = if m.1 110 s = 1 then (if w < 0 then some 0 else if m.1 112 s ≤ w then some 0 else (mj_ck (mj_b 1 115 ((120 * nI s) + w)) ( (some (m.2 115 ((120 * nI s) + w).toNatClampNeg))))) else some 0 := by
    unfold f_X9_element; rw [isSh9 N _ m, a, bind_some', if_neg (by decide), mj_ck_t (bb_110 hs), mj_ck_t (bb_112 hs), nI_clamp (by omega)]; rfl
  rw [q8, q9]
  rcases sh_cases (h5 s hs) with b | ⟨o, n, b⟩ | ⟨k, c, b⟩
  · exact ⟨0, by rw [(is_N hs b.2.1 N).2]; rfl, by rw [b.1]; rfl⟩
  · rw [(is_Row hs b.1 b.2.2.2.2.2.1 N).2, bind_some', if_neg (by decide), b.2.2.1, if_pos rfl, b.2.2.2.2.1]
    rcases has8 hs b.2.2.2.2.2.2.1 b.2.1 N w with ⟨c1, c2, -⟩ | ⟨j, hj, rfl, c1⟩
    · refine ⟨0, by rw [c1]; rfl, ?_⟩
      rcases c2 with c2 | c2
      · rw [if_pos c2]
      · by_cases c3 : w < 0
        · rw [if_pos c3]
        · rw [if_neg c3, if_pos c2]
    · have hn := b.2.1
      refine ⟨m.2 (80 + 2 * s) j, ?_, ?_⟩
      · rw [c1, bind_some', if_neg (by decide), mj_ck_t (bS hs (by omega)), nI_clamp (by omega), show 79 + 2 * s + 1 = 80 + 2 * s by omega]
      · rw [if_neg (nI_pos (by omega)), if_neg (nI_ge hj (by omega)), at9, mj_ck_t (bb_115 (by omega)), nI_clamp (by omega), b.2.2.2.2.2.2.2 j hj]
  · exact ⟨0, by rw [(is_Rule hs b.1 b.2.2.2.1 N).2]; rfl, by rw [b.2.1]; rfl⟩
/-- one shelf becomes another -/
theorem Rel_sh {m m' : mj_m} {s0 : Nat} (h : Rel m) (e1 : ∀ a k, okA a k → ¬ (a = 79 + 2 * s0 ∨ (110 ≤ a ∧ a ≤ 114 ∧ k = s0)) → m'.1 a k = m.1 a k) (e2 : ∀ a k, okL a → a ≠ 80 + 2 * s0 → ¬ (a = 115 ∧ 120 * s0 ≤ k ∧ k < 120 * s0 + 120) → m'.2 a k = m.2 a k) (hs0 : s0 < 8) (hs : ShR m' s0) : Rel m' := by
  obtain ⟨⟨t, u, h1⟩, ⟨p1, p2⟩, h3, h4, h5, ⟨n, hn, a1, a2, a3⟩, h7⟩ := h
  refine ⟨⟨t, u, h1.1, RT_c h1.1 h1.2.1 (fun a k q => e1 a k (Or.inr (Or.inl q)) (by unfold okC at q; omega)), RT_m h1.1 h1.2.2 (fun a k q => e1 a k (Or.inr (Or.inr q)) (by unfold okM at q; omega))⟩, ⟨?_, ?_⟩, ?_, ?_, ?_, ⟨n, hn, ?_, ?_, ?_⟩, ?_⟩
  · rw [e1 95 55 (Or.inl (by unfold okN; omega)) (by omega), e1 0 10 (Or.inl (by unfold okN; omega)) (by omega)]; exact p1
  · rw [e1 0 10 (Or.inl (by unfold okN; omega)) (by omega)]
    rcases p2 with p2 | ⟨p2, t, u, p3, p4, p5⟩
    · exact Or.inl p2
    · refine Or.inr ⟨p2, t, u, p3, Rep_same p4 p3 (fun f i hd => ?_), Rep_same p5 p3 (fun f i hd => ?_)⟩
      · have := cA_rng (b := 18) (d := 25) rfl hd
        exact e1 _ _ (Or.inl (by unfold okN; omega)) (by omega)
      · have := kA_rng (a := 119) hd
        exact e1 _ _ (Or.inl (by unfold okN; omega)) (by omega)
  · show m'.1 95 10 = m'.1 0 11
    rw [e1 95 10 (Or.inl (by unfold okN; omega)) (by omega), e1 0 11 (Or.inl (by unfold okN; omega)) (by omega)]; exact h3
  · intro i hi
    rw [e1 96 i (Or.inl (by unfold okN; omega)) (by omega), e1 77 i (Or.inl (by unfold okN; omega)) (by omega)]; exact h4 i hi
  · intro s q
    by_cases z : s = s0
    · rw [z]; exact hs
    · exact ShR_same (h5 s q) (fun a q1 q2 => e1 a s (Or.inl (by unfold okN; omega)) (by omega)) (fun k => e1 _ k (Or.inl (by unfold okN; omega)) (by omega)) (fun i hi => ⟨e2 _ _ (by unfold okL; omega) (by omega) (by omega), e2 _ _ (by unfold okL; omega) (by omega) (by omega)⟩)
  · rw [e1 75 1 (Or.inl (by unfold okN; omega)) (by omega)]; exact a1
  · rw [e1 95 54 (Or.inl (by unfold okN; omega)) (by omega)]; exact a2
  · intro i q1 q2
    rw [e1 127 i (Or.inl (by unfold okN; omega)) (by omega), e1 76 i (Or.inl (by unfold okN; omega)) (by omega)]; exact a3 i q1 q2
  · refine ⟨fun i hi => ?_, RB_of h7.2 (fun a q => Or.inl (e1 a 7 (by unfold okA okN okC okM; omega) (by omega)))⟩
    rw [e1 117 i (Or.inl (by unfold okN; omega)) (by omega)]; exact h7.1 i hi
