/-! THE CALLS, further: act, trace -/
def A8 (m0 m : mj_m) (l : List Int32) (k s a : Nat) : Prop := m.1 75 1 = nI l.length ∧ (∀ i, i < l.length → m.1 76 i = l.getD i 0) ∧ m.1 75 2 = nI k ∧ m.1 75 3 = nI s ∧ m.1 75 4 = nI a ∧ (∀ A K, A ≠ 75 → A ≠ 76 → m.1 A K = m0.1 A K) ∧ m.2 = m0.2
def A9 (m0 m : mj_m) (l : List Int32) (k s a : Nat) : Prop := m.1 95 54 = nI l.length ∧ (∀ i, i < l.length → m.1 127 i = l.getD i 0) ∧ m.1 113 s = nI k ∧ m.1 114 s = nI a ∧ (∀ A K, (A ≠ 95 ∨ K ≠ 54) → A ≠ 127 → m.1 A K = m0.1 A K) ∧ m.2 = m0.2
theorem getD_snoc (l : List Int32) (b : Int32) {i : Nat} (h : i < l.length) : (l ++ [b]).getD i 0 = l.getD i 0 := by
  simp [List.getD, List.getElem?_append_left h]
theorem getD_last (l : List Int32) (b : Int32) : (l ++ [b]).getD l.length 0 = b := by
  simp [List.getD]
theorem begin8 {m0 m : mj_m} {l : List Int32} {k s a : Nat} (h : A8 m0 m l k s a) (hl : l.length < 20) (N : Nat) (b : Int32) : ∃ m', f_X0_begin N b m = some m' ∧ A8 m0 m' (l ++ [b]) k s a := by
  obtain ⟨h1, h2, h3, h4, h5, h6, h7⟩ := h
  refine ⟨mj_wI (mj_wI m 76 l.length b) 75 1 (nI (l.length + 1)), ?_, ?_, fun i hi => ?_, ?_, ?_, ?_, fun A K q1 q2 => ?_, h7⟩
  · unfold f_X0_begin f_X0_begin_19
    rw [h1, if_neg (show ¬ 20 ≤ nI l.length from (nI_ge hl (by omega) : ¬ nI 20 ≤ nI l.length)), mj_ck_t (bb_76 hl), nI_clamp (by omega), mw_eq, mw_eq, wI_n (by omega), h1, nI_succ]
  · rw [wI_e]; simp
  · rw [wI_n (by omega)]
    by_cases q : i = l.length
    · rw [q, wI_e, getD_last]
    · have hi' : i < l.length := by simp at hi; omega
      rw [wI_n (by omega), getD_snoc l b hi']
      exact h2 i hi'
  · rw [wI_n (by omega), wI_n (by omega)]; exact h3
  · rw [wI_n (by omega), wI_n (by omega)]; exact h4
  · rw [wI_n (by omega), wI_n (by omega)]; exact h5
  · rw [wI_n (by omega), wI_n (by omega)]; exact h6 A K q1 q2
theorem begin9 {m0 m : mj_m} {l : List Int32} {k s a : Nat} (h : A9 m0 m l k s a) (hl : l.length < 20) (N : Nat) (b : Int32) : ∃ m', f_X9_body N b m = some m' ∧ A9 m0 m' (l ++ [b]) k s a := by
  obtain ⟨h1, h2, h3, h4, h6, h7⟩ := h
  refine ⟨mj_wI (mj_wI m 127 l.length b) 95 54 (nI (l.length + 1)), ?_, ?_, fun i hi => ?_, ?_, ?_, fun A K q1 q2 => ?_, h7⟩
  · unfold f_X9_body f_X9_body_19
    rw [h1, if_neg (show ¬ 20 ≤ nI l.length from (nI_ge hl (by omega) : ¬ nI 20 ≤ nI l.length)), mj_ck_t (bb_127 hl), nI_clamp (by omega), mw_eq, mw_eq, wI_n (by omega), h1, nI_succ]
  · rw [wI_e]; simp
  · rw [wI_n (by omega)]
    by_cases q : i = l.length
    · rw [q, wI_e, getD_last]
    · have hi' : i < l.length := by simp at hi; omega
      rw [wI_n (by omega), getD_snoc l b hi']
      exact h2 i hi'
  · rw [wI_n (by omega), wI_n (by omega)]; exact h3
  · rw [wI_n (by omega), wI_n (by omega)]; exact h4
  · rw [wI_n (by omega), wI_n (by omega)]; exact h6 A K q1 q2
def oL (k : Nat) : List Int32 := if k = 3 then [30, 20, 10] else if k = 1 then [20, 10] else [10]
def oV (k s a : Nat) (x : Int32) : Int32 := if k = 3 then x + 1 + nI s + nI a else if k = 1 then x + nI s + nI a else x + nI s
def cL (k : Nat) : List Int32 := (if k = 5 then [50, 40] else if k = 2 then [40] else if k = 6 then [71] else []) ++ 11 :: oL k
def cV (k s a : Nat) (x : Int32) : Int32 := if k = 5 then -(oV k s a x * 2 * 3) else if k = 2 then oV k s a x * 2 * 3 else if k = 6 then oV k s a (x - nI a) * 2 else oV k s a x * 2
def sL (k : Nat) : List Int32 := (if k = 3 then [31] else if k = 4 then [60] else if k = 6 then [70] else []) ++ 12 :: (cL k ++ oL k)
def sV (k s a : Nat) (x : Int32) : Int32 := if k = 3 then (cV k s a x ^^^ oV k s a (x - nI a)) - nI s else if k = 4 then (cV k s a x ^^^ oV k s a (x - nI a)) ^^^ 5 else if k = 6 then (cV k s a x ^^^ oV k s a (x - nI a)) * 2 else cV k s a x ^^^ oV k s a (x - nI a)
theorem oL_le (k : Nat) : (oL k).length ≤ 3 := by
  unfold oL
  by_cases a : k = 3
  · rw [if_pos a]; decide
  rw [if_neg a]
  by_cases b : k = 1
  · rw [if_pos b]; decide
  · rw [if_neg b]; decide
theorem nz {a b : Nat} (ha : a < 7) (hb : b < 7) (h : a ≠ b) : nI a ≠ nI b := fun e => h ((nI_eq (by omega) (by omega)).mp e)
theorem o8_0 {m0 m : mj_m} {l : List Int32} {k s a : Nat} (h : A8 m0 m l k s a) (hl : l.length < 20) (N d : Nat) {j : Nat} (hj : j < 7) (h1 : j ≠ 1) (h3 : j ≠ 3) (x : Int32) : ∃ m', f_X0_ordersFrom N (d + 1) (nI j) x m = some (x + nI s, m') ∧ A8 m0 m' (l ++ [10]) k s a := by
  obtain ⟨m1, b1, g1⟩ := begin8 h hl N 10
  refine ⟨m1, ?_, g1⟩
  show f_X0_ordersFrom_b N (f_X0_ordersFrom N d) (nI j) x m = _
  unfold f_X0_ordersFrom_b
  rw [if_neg (show ¬ nI j = 1 from nz (b := 1) hj (by decide) h1), if_neg (show ¬ nI j = 3 from nz (b := 3) hj (by decide) h3), b1, bind_some', g1.2.2.2.1]
theorem o8_1 {m0 m : mj_m} {l : List Int32} {k s a : Nat} (h : A8 m0 m l k s a) (hl : l.length < 19) (N d : Nat) (x : Int32) : ∃ m', f_X0_ordersFrom N (d + 2) 1 x m = some (x + nI s + nI a, m') ∧ A8 m0 m' (l ++ [20, 10]) k s a := by
  obtain ⟨m1, b1, g1⟩ := begin8 h (by omega) N 20
  obtain ⟨m2, b2, g2⟩ := o8_0 g1 (by simp; omega) N d (j := 0) (by omega) (by omega) (by omega) x
  refine ⟨m2, ?_, by simpa using g2⟩
  show f_X0_ordersFrom_b N (f_X0_ordersFrom N (d + 1)) 1 x m = _
  unfold f_X0_ordersFrom_b
  rw [if_pos rfl, b1, bind_some', show f_X0_ordersFrom N (d + 1) 0 x m1 = some (x + nI s, m2) from b2, bind_some', g2.2.2.2.2.1]
theorem o8 {m0 m : mj_m} {l : List Int32} {k s a : Nat} (h : A8 m0 m l k s a) (hk : k < 7) (hl : l.length < 17) (N : Nat) (x : Int32) : ∃ m', f_X0_ordersFrom N 8 (nI k) x m = some (oV k s a x, m') ∧ A8 m0 m' (l ++ oL k) k s a := by
  unfold oV oL
  by_cases q3 : k = 3
  · subst q3
    rw [if_pos rfl, if_pos rfl]
    obtain ⟨m1, b1, g1⟩ := begin8 h (by omega) N 30
    obtain ⟨m2, b2, g2⟩ := o8_1 g1 (by simp; omega) N 5 (x + 1)
    refine ⟨m2, ?_, by simpa using g2⟩
    show f_X0_ordersFrom_b N (f_X0_ordersFrom N 7) 3 x m = _
    unfold f_X0_ordersFrom_b
    rw [if_neg (by decide), if_pos rfl, b1, bind_some', b2]; rfl
  · rw [if_neg q3, if_neg q3]
    by_cases q1 : k = 1
    · subst q1
      rw [if_pos rfl, if_pos rfl]
      exact o8_1 h (by omega) N 6 x
    · rw [if_neg q1, if_neg q1]
      exact o8_0 h (by omega) N 7 hk q1 q3 x
theorem o9 {m0 m : mj_m} {l : List Int32} {k s a : Nat} (h : A9 m0 m l k s a) (hk : k < 7) (hs : s < 8) (hl : l.length < 17) (N : Nat) (x : Int32) : ∃ m', f_X9_ordering N (nI s) x m = some (oV k s a x, m') ∧ A9 m0 m' (l ++ oL k) k s a := by
  have e3 : m.1 113 s = nI k := h.2.2.1
  unfold oV oL
  by_cases q3 : k = 3
  · subst q3
    rw [if_pos rfl, if_pos rfl]
    obtain ⟨m1, b1, g1⟩ := begin9 h (by omega) N 30
    obtain ⟨m2, b2, g2⟩ := begin9 g1 (by simp; omega) N 20
    obtain ⟨m3, b3, g3⟩ := begin9 g2 (by simp; omega) N 10
    refine ⟨m3, ?_, by simpa using g3⟩
    unfold f_X9_ordering f_X9_ordering_26 f_X9_ordering_36 f_X9_ordering_42 f_X9_ordering_64
    rw [mj_ck_t (bb_113 hs), nI_clamp (by omega), e3, mw_eq, if_pos (show nI 3 = 3 from rfl), b1, bind_some', mw_eq, if_neg (show ¬ nI 3 = 1 by decide), if_pos (show nI 3 = 3 from rfl), b2, bind_some', b3, bind_some', mw_eq, if_neg (show ¬ nI 3 = 1 by decide), if_pos (show nI 3 = 3 from rfl), mj_ck_t (bb_114 hs), g3.2.2.2.1]
  · rw [if_neg q3, if_neg q3]
    have n3 : ¬ nI k = 3 := nz (b := 3) hk (by decide) q3
    by_cases q1 : k = 1
    · subst q1
      rw [if_pos rfl, if_pos rfl]
      obtain ⟨m2, b2, g2⟩ := begin9 h (by omega) N 20
      obtain ⟨m3, b3, g3⟩ := begin9 g2 (by simp; omega) N 10
      refine ⟨m3, ?_, by simpa using g3⟩
      unfold f_X9_ordering f_X9_ordering_26 f_X9_ordering_36 f_X9_ordering_42 f_X9_ordering_64
      rw [mj_ck_t (bb_113 hs), nI_clamp (by omega), e3, mw_eq, if_neg n3, if_pos (show nI 1 = 1 from rfl), b2, bind_some', b3, bind_some', mw_eq, if_pos (show nI 1 = 1 from rfl), mj_ck_t (bb_114 hs), g3.2.2.2.1]
    · rw [if_neg q1, if_neg q1]
      have n1 : ¬ nI k = 1 := nz (b := 1) hk (by decide) q1
      obtain ⟨m3, b3, g3⟩ := begin9 h (by omega) N 10
      refine ⟨m3, ?_, by simpa using g3⟩
      unfold f_X9_ordering f_X9_ordering_26 f_X9_ordering_42
      rw [mj_ck_t (bb_113 hs), nI_clamp (by omega), e3, mw_eq, if_neg n3, if_neg n1, if_neg n3, b3, bind_some', mw_eq, if_neg n1, if_neg n3]
theorem c8_83 {m0 m : mj_m} {l : List Int32} {k s a : Nat} (h : A8 m0 m l k s a) (hk : k < 7) (hl : l.length < 16) (N : Nat) (rc : Int32 → Int32 → mj_m → Option (Int32 × mj_m)) (x : Int32) : ∃ m', f_X0_costsFrom_83 N rc x m = some (oV k s a x * 2, m') ∧ A8 m0 m' (l ++ 11 :: oL k) k s a := by
  obtain ⟨m1, b1, g1⟩ := begin8 h (by omega) N 11
  obtain ⟨m2, b2, g2⟩ := o8 g1 hk (by simp; omega) N x
  refine ⟨m2, ?_, by simpa using g2⟩
  unfold f_X0_costsFrom_83
  rw [b1, bind_some', g1.2.2.1, b2]; rfl
theorem c8_0 {m0 m : mj_m} {l : List Int32} {k s a : Nat} (h : A8 m0 m l k s a) (hk : k < 7) (hl : l.length < 16) (N d : Nat) {j : Nat} (hj : j < 7) (h2 : j ≠ 2) (h5 : j ≠ 5) (h6 : j ≠ 6) (x : Int32) : ∃ m', f_X0_costsFrom N (d + 1) (nI j) x m = some (oV k s a x * 2, m') ∧ A8 m0 m' (l ++ 11 :: oL k) k s a := by
  obtain ⟨m2, b2, g2⟩ := c8_83 h hk hl N (f_X0_costsFrom N d) x
  refine ⟨m2, ?_, g2⟩
  show f_X0_costsFrom_b N (f_X0_costsFrom N d) (nI j) x m = _
  unfold f_X0_costsFrom_b
  rw [if_neg (show ¬ nI j = 2 from nz (b := 2) hj (by decide) h2), b2]
  by_cases q3 : nI j = 3
  · rw [if_pos q3]
  rw [if_neg q3]
  by_cases q4 : nI j = 4
  · rw [if_pos q4]
  rw [if_neg q4, if_neg (show ¬ nI j = 5 from nz (b := 5) hj (by decide) h5), if_neg (show ¬ nI j = 6 from nz (b := 6) hj (by decide) h6)]
theorem c8_2 {m0 m : mj_m} {l : List Int32} {k s a : Nat} (h : A8 m0 m l k s a) (hk : k < 7) (hl : l.length < 15) (N d : Nat) (x : Int32) : ∃ m', f_X0_costsFrom N (d + 2) 2 x m = some (oV k s a x * 2 * 3, m') ∧ A8 m0 m' (l ++ 40 :: 11 :: oL k) k s a := by
  obtain ⟨m1, b1, g1⟩ := begin8 h (by omega) N 40
  obtain ⟨m2, b2, g2⟩ := c8_0 g1 hk (by simp; omega) N d (j := 0) (by omega) (by omega) (by omega) (by omega) x
  refine ⟨m2, ?_, by simpa using g2⟩
  show f_X0_costsFrom_b N (f_X0_costsFrom N (d + 1)) 2 x m = _
  unfold f_X0_costsFrom_b
  rw [if_pos rfl, b1, bind_some', show f_X0_costsFrom N (d + 1) 0 x m1 = _ from b2]; rfl
theorem c8 {m0 m : mj_m} {l : List Int32} {k s a : Nat} (h : A8 m0 m l k s a) (hk : k < 7) (hl : l.length < 14) (N : Nat) (x : Int32) : ∃ m', f_X0_costsFrom N 8 (nI k) x m = some (cV k s a x, m') ∧ A8 m0 m' (l ++ cL k) k s a := by
  unfold cV cL
  by_cases q5 : k = 5
  · subst q5
    rw [if_pos rfl, if_pos rfl]
    obtain ⟨m1, b1, g1⟩ := begin8 h (by omega) N 50
    obtain ⟨m2, b2, g2⟩ := c8_2 g1 hk (by simp; omega) N 5 x
    refine ⟨m2, ?_, by simpa using g2⟩
    show f_X0_costsFrom_b N (f_X0_costsFrom N 7) 5 x m = _
    unfold f_X0_costsFrom_b
    rw [if_neg (by decide), if_neg (by decide), if_neg (by decide), if_pos rfl, b1, bind_some', b2]; rfl
  rw [if_neg q5, if_neg q5]
  by_cases q2 : k = 2
  · subst q2
    rw [if_pos rfl, if_pos rfl]
    obtain ⟨m2, b2, g2⟩ := c8_2 h hk (by omega) N 6 x
    exact ⟨m2, b2, by simpa using g2⟩
  rw [if_neg q2, if_neg q2]
  by_cases q6 : k = 6
  · subst q6
    rw [if_pos rfl, if_pos rfl]
    obtain ⟨m1, b1, g1⟩ := begin8 h (by omega) N 71
    obtain ⟨m2, b2, g2⟩ := c8_0 g1 hk (by simp; omega) N 6 (j := 0) (by omega) (by omega) (by omega) (by omega) (x - nI a)
    refine ⟨m2, ?_, by simpa using g2⟩
    show f_X0_costsFrom_b N (f_X0_costsFrom N 7) 6 x m = _
    unfold f_X0_costsFrom_b
    rw [if_neg (by decide), if_neg (by decide), if_neg (by decide), if_neg (by decide), if_pos rfl, b1, bind_some', g1.2.2.2.2.1, show f_X0_costsFrom N 7 0 (x - nI a) m1 = _ from b2]; rfl
  rw [if_neg q6, if_neg q6]
  obtain ⟨m2, b2, g2⟩ := c8_0 h hk (by omega) N 7 hk q2 q5 q6 x
  exact ⟨m2, b2, by simpa using g2⟩
theorem c9_59 {m0 m : mj_m} {l : List Int32} {k s a : Nat} (h : A9 m0 m l k s a) (hk : k < 7) (hs : s < 8) (hl : l.length < 16) (N : Nat) (x : Int32) : ∃ m', f_X9_costing_59 N (nI s) (nI k) x m = some (if k = 2 then oV k s a x * 2 * 3 else if k = 5 then -(oV k s a x * 2 * 3) else oV k s a x * 2, m') ∧ A9 m0 m' (l ++ 11 :: oL k) k s a := by
  obtain ⟨m1, b1, g1⟩ := begin9 h (by omega) N 11
  obtain ⟨m2, b2, g2⟩ := o9 g1 hk hs (by simp; omega) N x
  refine ⟨m2, ?_, by simpa using g2⟩
  unfold f_X9_costing_59
  rw [b1, bind_some', b2, bind_some', mw_eq]
  dsimp only
  by_cases q2 : k = 2
  · subst q2; rfl
  rw [if_neg q2, if_neg (show ¬ nI k = 2 from nz (b := 2) hk (by decide) q2)]
  by_cases q5 : k = 5
  · subst q5; rfl
  rw [if_neg q5, if_neg (show ¬ nI k = 5 from nz (b := 5) hk (by decide) q5)]
theorem c9 {m0 m : mj_m} {l : List Int32} {k s a : Nat} (h : A9 m0 m l k s a) (hk : k < 7) (hs : s < 8) (hl : l.length < 14) (N : Nat) (x : Int32) : ∃ m', f_X9_costing N (nI s) x m = some (cV k s a x, m') ∧ A9 m0 m' (l ++ cL k) k s a := by
  have e3 : m.1 113 s = nI k := h.2.2.1
  have key : f_X9_costing N (nI s) x m = if nI k = 5 then ((f_X9_body N 50 m).bind (fun r4 => f_X9_costing_21 N (nI s) x (nI k) x r4)) else f_X9_costing_21 N (nI s) x (nI k) x m := by
    unfold f_X9_costing; rw [mj_ck_t (bb_113 hs), nI_clamp (by omega), e3, mw_eq]
  unfold cV cL
  by_cases q5 : k = 5
  · subst q5
    rw [if_pos rfl, if_pos rfl]
    obtain ⟨m1, b1, g1⟩ := begin9 h (by omega) N 50
    obtain ⟨m2, b2, g2⟩ := begin9 g1 (by simp; omega) N 40
    obtain ⟨m3, b3, g3⟩ := c9_59 g2 hk hs (by simp; omega) N x
    refine ⟨m3, ?_, by simpa using g3⟩
    rw [key, if_pos (show nI 5 = 5 from rfl), b1, bind_some']
    unfold f_X9_costing_21 f_X9_costing_31 f_X9_costing_37
    rw [if_neg (show ¬ nI 5 = 2 by decide), if_pos (show nI 5 = 5 from rfl), b2, bind_some', if_neg (show ¬ nI 5 = 6 by decide), b3]; rfl
  rw [if_neg q5, if_neg q5]
  have n5 : ¬ nI k = 5 := nz (b := 5) hk (by decide) q5
  rw [key, if_neg n5]
  by_cases q2 : k = 2
  · subst q2
    rw [if_pos rfl, if_pos rfl]
    obtain ⟨m2, b2, g2⟩ := begin9 h (by omega) N 40
    obtain ⟨m3, b3, g3⟩ := c9_59 g2 hk hs (by simp; omega) N x
    refine ⟨m3, ?_, by simpa using g3⟩
    unfold f_X9_costing_21 f_X9_costing_31 f_X9_costing_37
    rw [if_pos (show nI 2 = 2 from rfl), b2, bind_some', if_neg (show ¬ nI 2 = 6 by decide), b3]; rfl
  rw [if_neg q2, if_neg q2]
  have n2 : ¬ nI k = 2 := nz (b := 2) hk (by decide) q2
  unfold f_X9_costing_21 f_X9_costing_37
  rw [if_neg n2, if_neg n5]
  by_cases q6 : k = 6
  · subst q6
    rw [if_pos rfl, if_pos rfl]
    obtain ⟨m1, b1, g1⟩ := begin9 h (by omega) N 71
    obtain ⟨m3, b3, g3⟩ := c9_59 g1 hk hs (by simp; omega) N (x - nI a)
    refine ⟨m3, ?_, by simpa using g3⟩
    rw [if_pos (show nI 6 = 6 from rfl), b1, bind_some', mj_ck_t (bb_114 hs), nI_clamp (by omega), g1.2.2.2.1, mw_eq, b3]; rfl
  rw [if_neg q6, if_neg q6]
  obtain ⟨m3, b3, g3⟩ := c9_59 h hk hs (by omega) N x
  refine ⟨m3, ?_, by simpa using g3⟩
  rw [if_neg (show ¬ nI k = 6 from nz (b := 6) hk (by decide) q6), b3, if_neg q2, if_neg q5]
theorem cL_le (k : Nat) : (cL k).length ≤ 6 := by
  have := oL_le k
  unfold cL
  split
  · simp; omega
  split
  · simp; omega
  split
  · simp; omega
  · simp; omega
theorem s8_80 {m0 m : mj_m} {l : List Int32} {k s a : Nat} (h : A8 m0 m l k s a) (hk : k < 7) (hl : l.length < 6) (N : Nat) (rc : Int32 → Int32 → mj_m → Option (Int32 × mj_m)) (x : Int32) : ∃ m', f_X0_savesFrom_80 N rc x m = some (cV k s a x ^^^ oV k s a (x - nI a), m') ∧ A8 m0 m' (l ++ 12 :: (cL k ++ oL k)) k s a := by
  have := cL_le k
  obtain ⟨m1, b1, g1⟩ := begin8 h (by omega) N 12
  obtain ⟨m2, b2, g2⟩ := c8 g1 hk (by simp; omega) N x
  obtain ⟨m3, b3, g3⟩ := o8 g2 hk (by simp; omega) N (x - nI a)
  refine ⟨m3, ?_, by simpa using g3⟩
  unfold f_X0_savesFrom_80
  rw [b1, bind_some', g1.2.2.1, b2, bind_some', g2.2.2.1, g2.2.2.2.2.1, b3]; rfl
theorem s8_0 {m0 m : mj_m} {l : List Int32} {k s a : Nat} (h : A8 m0 m l k s a) (hk : k < 7) (hl : l.length < 6) (N d : Nat) {j : Nat} (hj : j < 7) (h2 : j ≠ 3) (h5 : j ≠ 4) (h6 : j ≠ 6) (x : Int32) : ∃ m', f_X0_savesFrom N (d + 1) (nI j) x m = some (cV k s a x ^^^ oV k s a (x - nI a), m') ∧ A8 m0 m' (l ++ 12 :: (cL k ++ oL k)) k s a := by
  obtain ⟨m2, b2, g2⟩ := s8_80 h hk hl N (f_X0_savesFrom N d) x
  refine ⟨m2, ?_, g2⟩
  show f_X0_savesFrom_b N (f_X0_savesFrom N d) (nI j) x m = _
  unfold f_X0_savesFrom_b
  rw [if_neg (show ¬ nI j = 3 from nz (b := 3) hj (by decide) h2), if_neg (show ¬ nI j = 4 from nz (b := 4) hj (by decide) h5), b2]
  by_cases q3 : nI j = 5
  · rw [if_pos q3]
  rw [if_neg q3, if_neg (show ¬ nI j = 6 from nz (b := 6) hj (by decide) h6)]
theorem s8 {m0 m : mj_m} {l : List Int32} {k s a : Nat} (h : A8 m0 m l k s a) (hk : k < 7) (hl : l.length < 5) (N : Nat) (x : Int32) : ∃ m', f_X0_savesFrom N 8 (nI k) x m = some (sV k s a x, m') ∧ A8 m0 m' (l ++ sL k) k s a := by
  unfold sV sL
  by_cases q3 : k = 3
  · subst q3
    rw [if_pos rfl, if_pos rfl]
    obtain ⟨m1, b1, g1⟩ := begin8 h (by omega) N 31
    obtain ⟨m2, b2, g2⟩ := s8_0 g1 hk (by simp; omega) N 6 (j := 0) (by omega) (by omega) (by omega) (by omega) x
    refine ⟨m2, ?_, by simpa using g2⟩
    show f_X0_savesFrom_b N (f_X0_savesFrom N 7) 3 x m = _
    unfold f_X0_savesFrom_b
    rw [if_pos rfl, b1, bind_some', show f_X0_savesFrom N 7 0 x m1 = _ from b2, bind_some', g2.2.2.2.1]
  rw [if_neg q3, if_neg q3]
  by_cases q4 : k = 4
  · subst q4
    rw [if_pos rfl, if_pos rfl]
    obtain ⟨m1, b1, g1⟩ := begin8 h (by omega) N 60
    obtain ⟨m2, b2, g2⟩ := s8_0 g1 hk (by simp; omega) N 6 (j := 0) (by omega) (by omega) (by omega) (by omega) x
    refine ⟨m2, ?_, by simpa using g2⟩
    show f_X0_savesFrom_b N (f_X0_savesFrom N 7) 4 x m = _
    unfold f_X0_savesFrom_b
    rw [if_neg (by decide), if_pos rfl, b1, bind_some', show f_X0_savesFrom N 7 0 x m1 = _ from b2]; rfl
  rw [if_neg q4, if_neg q4]
  by_cases q6 : k = 6
  · subst q6
    rw [if_pos rfl, if_pos rfl]
    obtain ⟨m1, b1, g1⟩ := begin8 h (by omega) N 70
    obtain ⟨m2, b2, g2⟩ := s8_0 g1 hk (by simp; omega) N 6 (j := 0) (by omega) (by omega) (by omega) (by omega) x
    refine ⟨m2, ?_, by simpa using g2⟩
    show f_X0_savesFrom_b N (f_X0_savesFrom N 7) 6 x m = _
    unfold f_X0_savesFrom_b
    rw [if_neg (by decide), if_neg (by decide), if_neg (by decide), if_pos rfl, b1, bind_some', show f_X0_savesFrom N 7 0 x m1 = _ from b2]; rfl
  rw [if_neg q6, if_neg q6]
  obtain ⟨m2, b2, g2⟩ := s8_0 h hk (by omega) N 7 hk q3 q4 q6 x
  exact ⟨m2, b2, by simpa using g2⟩
theorem s9 {m0 m : mj_m} {l : List Int32} {k s a : Nat} (h : A9 m0 m l k s a) (hk : k < 7) (hs : s < 8) (hl : l.length < 5) (N : Nat) (x : Int32) : ∃ m', f_X9_saving N (nI s) x m = some (sV k s a x, m') ∧ A9 m0 m' (l ++ sL k) k s a := by
  have := cL_le k
  have e3 : m.1 113 s = nI k := h.2.2.1
  have fin : ∀ (m1 : mj_m) (l1 : List Int32), A9 m0 m1 l1 k s a → l1.length < 6 → ∃ m', f_X9_saving_41 N (nI s) x (nI k) m1 = some (sV k s a x, m') ∧ A9 m0 m' (l1 ++ 12 :: (cL k ++ oL k)) k s a := by
    intro m1 l1 g hl1
    obtain ⟨m2, b2, g2⟩ := begin9 g (by omega) N 12
    obtain ⟨m3, b3, g3⟩ := c9 g2 hk hs (by simp; omega) N x
    obtain ⟨m4, b4, g4⟩ := o9 g3 hk hs (by simp; omega) N (x - nI a)
    refine ⟨m4, ?_, by simpa using g4⟩
    unfold f_X9_saving_41 sV
    rw [b2, bind_some', b3, bind_some', mj_ck_t (bb_114 hs), nI_clamp (by omega), g3.2.2.2.1, b4, bind_some', mw_eq]
    by_cases q3 : k = 3
    · subst q3; rfl
    rw [if_neg q3, if_neg (show ¬ nI k = 3 from nz (b := 3) hk (by decide) q3)]
    by_cases q4 : k = 4
    · subst q4; rfl
    rw [if_neg q4, if_neg (show ¬ nI k = 4 from nz (b := 4) hk (by decide) q4)]
    by_cases q6 : k = 6
    · subst q6; rfl
    rw [if_neg q6, if_neg (show ¬ nI k = 6 from nz (b := 6) hk (by decide) q6)]
  unfold f_X9_saving f_X9_saving_18 f_X9_saving_29 sL
  rw [mj_ck_t (bb_113 hs), nI_clamp (by omega), e3, mw_eq]
  by_cases q3 : k = 3
  · subst q3
    obtain ⟨m1, b1, g1⟩ := begin9 h (by omega) N 31
    obtain ⟨m2, b2, g2⟩ := fin m1 _ g1 (by simp; omega)
    refine ⟨m2, ?_, by simpa using g2⟩
    rw [if_pos (show nI 3 = 3 from rfl), b1, bind_some', if_neg (show ¬ nI 3 = 4 by decide), if_neg (show ¬ nI 3 = 6 by decide), b2]
  rw [if_neg (show ¬ nI k = 3 from nz (b := 3) hk (by decide) q3), if_neg q3]
  by_cases q4 : k = 4
  · subst q4
    obtain ⟨m1, b1, g1⟩ := begin9 h (by omega) N 60
    obtain ⟨m2, b2, g2⟩ := fin m1 _ g1 (by simp; omega)
    refine ⟨m2, ?_, by simpa using g2⟩
    rw [if_pos (show nI 4 = 4 from rfl), b1, bind_some', if_neg (show ¬ nI 4 = 6 by decide), b2]
  rw [if_neg (show ¬ nI k = 4 from nz (b := 4) hk (by decide) q4), if_neg q4]
  by_cases q6 : k = 6
  · subst q6
    obtain ⟨m1, b1, g1⟩ := begin9 h (by omega) N 70
    obtain ⟨m2, b2, g2⟩ := fin m1 _ g1 (by simp; omega)
    refine ⟨m2, ?_, by simpa using g2⟩
    rw [if_pos (show nI 6 = 6 from rfl), b1, bind_some', b2]
  rw [if_neg (show ¬ nI k = 6 from nz (b := 6) hk (by decide) q6), if_neg q6]
  obtain ⟨m2, b2, g2⟩ := fin m l h (by omega)
  exact ⟨m2, b2, by simpa using g2⟩
theorem sL_le (k : Nat) : (sL k).length ≤ 20 := by
  have l1 := oL_le k
  have l2 := cL_le k
  unfold sL
  by_cases a : k = 3
  · rw [if_pos a]; simp; omega
  rw [if_neg a]
  by_cases b : k = 4
  · rw [if_pos b]; simp; omega
  rw [if_neg b]
  by_cases c : k = 6
  · rw [if_pos c]; simp; omega
  · rw [if_neg c]; simp; omega
theorem Rel_act {m m1 m2 : mj_m} {l : List Int32} {k s a : Nat} (h : Rel m) (h1 : A8 m m1 l k s a) (h2 : A9 (mj_wI m1 95 54 0) m2 l k s a) (hl : l.length < 1000) : Rel m2 := by
  obtain ⟨⟨t, u, r1⟩, ⟨p1, p2⟩, r3, r4, r5, -, r7⟩ := h
  have e : ∀ A K, A ≠ 75 → A ≠ 76 → (A ≠ 95 ∨ K ≠ 54) → A ≠ 127 → m2.1 A K = m.1 A K := by
    intro A K q1 q2 q3 q4
    rw [h2.2.2.2.2.1 A K q3 q4, wI_n (by omega)]
    exact h1.2.2.2.2.2.1 A K q1 q2
  have e2 : m2.2 = m.2 := by rw [h2.2.2.2.2.2]; exact h1.2.2.2.2.2.2
  refine ⟨⟨t, u, r1.1, RT_c r1.1 r1.2.1 (fun a k q => e a k (by unfold okC at q; omega) (by unfold okC at q; omega) (by unfold okC at q; omega) (by unfold okC at q; omega)), RT_m r1.1 r1.2.2 (fun a k q => e a k (by unfold okM at q; omega) (by unfold okM at q; omega) (by unfold okM at q; omega) (by unfold okM at q; omega))⟩, ⟨?_, ?_⟩, ?_, ?_, ?_, ⟨l.length, hl, ?_, ?_, ?_⟩, ?_⟩
  · rw [e 95 55 (by omega) (by omega) (by omega) (by omega), e 0 10 (by omega) (by omega) (by omega) (by omega)]; exact p1
  · rw [e 0 10 (by omega) (by omega) (by omega) (by omega)]
    rcases p2 with p2 | ⟨p2, t, u, p3, p4, p5⟩
    · exact Or.inl p2
    · refine Or.inr ⟨p2, t, u, p3, Rep_same p4 p3 (fun f i hd => ?_), Rep_same p5 p3 (fun f i hd => ?_)⟩
      · have := cA_rng (b := 18) (d := 25) rfl hd
        exact e _ _ (by omega) (by omega) (by omega) (by omega)
      · have := kA_rng (a := 119) hd
        exact e _ _ (by omega) (by omega) (by omega) (by omega)
  · show m2.1 95 10 = m2.1 0 11
    rw [e 95 10 (by omega) (by omega) (by omega) (by omega), e 0 11 (by omega) (by omega) (by omega) (by omega)]; exact r3
  · intro i hi
    rw [e 96 i (by omega) (by omega) (by omega) (by omega), e 77 i (by omega) (by omega) (by omega) (by omega)]; exact r4 i hi
  · intro s q
    exact ShR_same (r5 s q) (fun a q1 q2 => e a s (by omega) (by omega) (by omega) (by omega)) (fun k => e _ k (by omega) (by omega) (by omega) (by omega)) (fun i hi => ⟨by rw [e2], by rw [e2]⟩)
  · rw [h2.2.2.2.2.1 75 1 (by omega) (by omega), wI_n (by omega)]; exact h1.1
  · exact h2.1
  · intro i q1 q2
    rw [h2.2.1 i q2, h2.2.2.2.2.1 76 i (by omega) (by omega), wI_n (by omega), h1.2.1 i q2]
  · refine ⟨fun i hi => ?_, RB_of r7.2 (fun a q => Or.inl (e a 7 (by omega) (by omega) (by omega) (by omega)))⟩
    rw [e 117 i (by omega) (by omega) (by omega) (by omega)]; exact r7.1 i hi
theorem act_none {m : mj_m} (h : Rel m) : Rel (mj_wI (mj_wI m 75 1 0) 95 54 0) := by
  obtain ⟨⟨t, u, r1⟩, r2, r3, r4, r5, -, r7⟩ := h
  refine ⟨⟨t, u, RT_wI (RT_wI r1 (by omega)) (by omega)⟩, RP_wI (RP_wI r2 (by omega)) (by omega), RF_wI (RF_wI r3 (by omega)) (by omega), RR_wI (RR_wI r4 (by omega)) (by omega), RS_wI (RS_wI r5 (by omega)) (by omega), ⟨0, by omega, ?_, ?_, fun i q1 q2 => by omega⟩, RW_wI (RW_wI r7 (by omega)) (by omega)⟩
  · rw [wI_n (by omega), wI_e]; rfl
  · rw [wI_e]; rfl
theorem ca_act {m : mj_m} (h : Rel m) (N : Nat) (v w x : Int32) : Both (f_X8_act N v w x) (f_X9_act N v w x) m := by
  have h5 := h.2.2.2.2.1
  have no : f_X8_act N v w x m = some (0, mj_wI m 75 1 0) → f_X9_act N v w x (mj_wI m 75 1 0) = some (0, mj_wI (mj_wI m 75 1 0) 95 54 0) → Both (f_X8_act N v w x) (f_X9_act N v w x) m := fun q1 q2 => ⟨0, mj_wI m 75 1 0, _, q1, q2, act_none h⟩
  rcases isSh N v (mj_wI m 75 1 0) with a | ⟨s, hs, rfl, a⟩
  · refine no ?_ ?_
    · unfold f_X8_act f_X0_forget; rw [mw_eq, bind_some', a]; rfl
    · unfold f_X9_act; rw [mw_eq, isSh9 N v (mj_wI m 75 1 0), a]; rfl
  have q8 : f_X8_act N (nI s) w x m = (f_X6_isRule N (79 + 2 * s) (mj_wI m 75 1 0)).bind (fun r5 => if r5 = 0 then (some (0, mj_wI m 75 1 0)) else (if w < 0 then (some (0, mj_wI m 75 1 0)) else (if w ≤ 2 then ((f_X0_perform N (79 + 2 * s) (nI s) w x (mj_wI m 75 1 0)).bind (fun r9 => some (r9.1, r9.2))) else (some (0, mj_wI m 75 1 0))))) := by
    unfold f_X8_act f_X0_forget; rw [mw_eq, bind_some', a, bind_some', if_neg (by decide), mj_ck_t (bb_35 hs), nI_clamp (by omega)]
  have q9 : ∀ m' : mj_m, f_X9_act N (nI s) w x m' = if m'.1 110 s = 2 then (if w < 0 then (some (0, mj_wI m' 95 54 0)) else (if w ≤ 2 then (if w = 0 then ((f_X9_ordering N (nI s) x (mj_wI m' 95 54 0)).bind (fun r9 => (some (r9.1, r9.2)))) else (if w = 1 then ((f_X9_costing N (nI s) x (mj_wI m' 95 54 0)).bind (fun r10 => (some (r10.1, r10.2)))) else ((f_X9_saving N (nI s) x (mj_wI m' 95 54 0)).bind (fun r10 => (some (r10.1, r10.2)))))) else (some (0, mj_wI m' 95 54 0)))) else (some (0, mj_wI m' 95 54 0)) := by
    intro m'
    unfold f_X9_act; rw [mw_eq, isSh9 N _ (mj_wI m 75 1 0), a, bind_some', if_neg (by decide), mj_ck_t (bb_110 hs), nI_clamp (by omega), wI_n (by omega)]
  rcases sh_cases (h5 s hs) with b | ⟨o, n, b⟩ | ⟨k, c, b⟩
  · refine no ?_ ?_
    · rw [q8, (is_N hs (by rw [wI_n (by omega)]; exact b.2.1) N).1]; rfl
    · rw [q9, wI_n (by omega), b.1]; rfl
  · refine no ?_ ?_
    · rw [q8, (is_Row hs b.1 (by rw [wI_n (by omega)]; exact b.2.2.2.2.2.1) N).1]; rfl
    · rw [q9, wI_n (by omega), b.2.2.1]; rfl
  obtain ⟨hk, b1, b2, b3, b4, b5, b6, -⟩ := b
  have q8' : f_X8_act N (nI s) w x m = (if w < 0 then (some (0, mj_wI m 75 1 0)) else (if w ≤ 2 then ((f_X0_perform N (79 + 2 * s) (nI s) w x (mj_wI m 75 1 0)).bind (fun r9 => some (r9.1, r9.2))) else (some (0, mj_wI m 75 1 0)))) := by
    rw [q8, (is_Rule hs hk (by rw [wI_n (by omega)]; exact b3) N).1, bind_some', if_neg (by decide)]
  by_cases hw : ¬ w < 0 ∧ w ≤ 2
  rotate_left
  · refine no ?_ ?_
    · rw [q8']
      by_cases y : w < 0
      · rw [if_pos y]
      · rw [if_neg y, if_neg (fun y2 => hw ⟨y, y2⟩)]
    · rw [q9, wI_n (by omega), b1, if_pos rfl]
      by_cases y : w < 0
      · rw [if_pos y]
      · rw [if_neg y, if_neg (fun y2 => hw ⟨y, y2⟩)]
  rw [if_neg hw.1, if_pos hw.2] at q8'
  have g8 : A8 m (mj_wI (mj_wI (mj_wI (mj_wI m 75 1 0) 75 2 (nI k)) 75 3 (nI s)) 75 4 (nI c)) [] k s c := by
    refine ⟨?_, fun i hi => absurd hi (by simp), ?_, ?_, ?_, fun A K y1 y2 => ?_, rfl⟩
    · rw [wI_n (by omega), wI_n (by omega), wI_n (by omega), wI_e]; rfl
    · rw [wI_n (by omega), wI_n (by omega), wI_e]
    · rw [wI_n (by omega), wI_e]
    · rw [wI_e]
    · rw [wI_n (by omega), wI_n (by omega), wI_n (by omega), wI_n (by omega)]
  have p8 : f_X0_perform N (79 + 2 * s) (nI s) w x (mj_wI m 75 1 0) = (if w = 0 then ((f_X0_ordersFrom N 8 (nI k) x (mj_wI (mj_wI (mj_wI (mj_wI m 75 1 0) 75 2 (nI k)) 75 3 (nI s)) 75 4 (nI c))).bind (fun r6 => some (r6.1, r6.2))) else if w = 1 then ((f_X0_costsFrom N 8 (nI k) x (mj_wI (mj_wI (mj_wI (mj_wI m 75 1 0) 75 2 (nI k)) 75 3 (nI s)) 75 4 (nI c))).bind (fun r7 => some (r7.1, r7.2))) else ((f_X0_savesFrom N 8 (nI k) x (mj_wI (mj_wI (mj_wI (mj_wI m 75 1 0) 75 2 (nI k)) 75 3 (nI s)) 75 4 (nI c))).bind (fun r7 => some (r7.1, r7.2)))) := by
    unfold f_X0_perform
    have z1 : (mj_wI m 75 1 0).1 (79 + 2 * s) 1 = nI k := by rw [wI_n (by omega)]; exact b3
    have z3 : (mj_wI (mj_wI (mj_wI m 75 1 0) 75 2 (nI k)) 75 3 (nI s)).1 (79 + 2 * s) 3 = nI c := by rw [wI_n (by omega), wI_n (by omega), wI_n (by omega)]; exact b4
    rw [mj_ck_t (o6 hs), z1, mw_eq, mw_eq, z3, mw_eq, g8.2.2.1]
  have st9 : ∀ m1, (∀ A K, A ≠ 75 → A ≠ 76 → m1.1 A K = m.1 A K) → A9 (mj_wI m1 95 54 0) (mj_wI m1 95 54 0) [] k s c := by
    intro m1 e
    refine ⟨wI_e, fun i hi => absurd hi (by simp), ?_, ?_, fun _ _ _ _ => rfl, rfl⟩
    · rw [wI_n (by omega), e _ _ (by omega) (by omega)]; exact b2
    · rw [wI_n (by omega), e _ _ (by omega) (by omega)]; exact b6
  obtain ⟨w, -, hw2, rfl⟩ := mid (a := 0) (b := 2) hw.1 (show ¬ (2 : Int32) < w from fun y => by have := hw.2; rw [Int32.le_iff_toInt_le] at this; rw [Int32.lt_iff_toInt_lt] at y; omega) (by decide)
  have l1 := oL_le k
  have l2 := cL_le k
  have l3 := sL_le k
  rcases (by omega : w = 0 ∨ w = 1 ∨ w = 2) with rfl | rfl | rfl
  · obtain ⟨m1, r1, g1⟩ := o8 g8 hk (by simp) N x
    obtain ⟨m2, r2, g2⟩ := o9 (st9 m1 g1.2.2.2.2.2.1) hk hs (by simp) N x
    refine ⟨oV k s c x, m1, m2, ?_, ?_, Rel_act h g1 g2 (by simp; omega)⟩
    · rw [q8', p8, if_pos (by rfl), r1]; rfl
    · rw [q9, g1.2.2.2.2.2.1 110 s (by omega) (by omega), b1, if_pos rfl, if_neg hw.1, if_pos hw.2, if_pos (by rfl), r2]; rfl
  · obtain ⟨m1, r1, g1⟩ := c8 g8 hk (by simp) N x
    obtain ⟨m2, r2, g2⟩ := c9 (st9 m1 g1.2.2.2.2.2.1) hk hs (by simp) N x
    refine ⟨cV k s c x, m1, m2, ?_, ?_, Rel_act h g1 g2 (by simp; omega)⟩
    · rw [q8', p8, if_neg (by decide), if_pos (by rfl), r1]; rfl
    · rw [q9, g1.2.2.2.2.2.1 110 s (by omega) (by omega), b1, if_pos rfl, if_neg hw.1, if_pos hw.2, if_neg (by decide), if_pos (by rfl), r2]; rfl
  · obtain ⟨m1, r1, g1⟩ := s8 g8 hk (by simp) N x
    obtain ⟨m2, r2, g2⟩ := s9 (st9 m1 g1.2.2.2.2.2.1) hk hs (by simp) N x
    refine ⟨sV k s c x, m1, m2, ?_, ?_, Rel_act h g1 g2 (by simp; omega)⟩
    · rw [q8', p8, if_neg (by decide), if_neg (by decide), r1]; rfl
    · rw [q9, g1.2.2.2.2.2.1 110 s (by omega) (by omega), b1, if_pos rfl, if_neg hw.1, if_pos hw.2, if_neg (by decide), if_neg (by decide), r2]; rfl
theorem ca_trace {m : mj_m} (h : Rel m) (N : Nat) (v : Int32) : ∃ x, f_X8_trace N v m = some x ∧ f_X9_trace N v m = some x := by
  obtain ⟨n, hn, a1, a2, a3⟩ := h.2.2.2.2.2.1
  unfold f_X8_trace f_X0_bodyAt f_X9_trace f_X0_bodyAt_27 f_X9_trace_27
  rw [a1, a2]
  by_cases h0 : v < 0
  · rw [if_pos h0, if_pos h0]; exact ⟨_, rfl, rfl⟩
  rw [if_neg h0, if_neg h0]
  by_cases h1 : 20 ≤ v
  · simp only [if_pos h1]
    by_cases h2 : nI n ≤ v
    · simp only [if_pos h2]; exact ⟨_, rfl, rfl⟩
    · simp only [if_neg h2]; exact ⟨_, rfl, rfl⟩
  · simp only [if_neg h1]
    by_cases h2 : nI n ≤ v
    · simp only [if_pos h2]; exact ⟨_, rfl, rfl⟩
    · simp only [if_neg h2]
      obtain ⟨k, hk, rfl⟩ := bnd (c := 20) (n := 20) rfl (by omega) h0 h1
      rw [mj_ck_t (bb_76 hk), mj_ck_t (bb_127 hk), nI_clamp (by omega), a3 k hk (by
        rcases Nat.lt_or_ge k n with z | z
        · exact z
        · exact absurd (nI_le z (by omega)) h2)]
      exact ⟨_, rfl, rfl⟩
