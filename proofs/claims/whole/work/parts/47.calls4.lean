/-! THE CALLS, further: alter; what a town that grows holds -/
theorem ca_alter {m : mj_m} (h : Rel m) (N : Nat) (v w x : Int32) : Both (f_X8_alter N v w x) (f_X9_alter N v w x) m := by
  obtain ⟨t, u, h1⟩ := h.1
  have hH := RT_nH h1
  have h2 := RT_rfu h1 1
  rcases isH8 h1 N v with ⟨a1, a2⟩ | ⟨k, hk, rfl, a1⟩
  · refine ⟨-1, rfu m 1, _, ?_, ?_, Rel_rf h 1⟩
    · unfold f_X8_alter; rw [a1, bind_some', if_pos rfl, rf8_1]; rfl
    · unfold f_X9_alter; rw [isH9_n h2 N a2, bind_some', if_pos rfl, rf9_1]; rfl
  have b4 : mj_b 2 4 (nI k) = true := bb_4 (by omega)
  have ck : (nI k).toNatClampNeg = k := nI_clamp (by omega)
  by_cases a0 : w = 0 ∧ ¬ x < 0 ∧ ¬ 99 < x
  · obtain ⟨rfl, b1, b2⟩ := a0
    obtain ⟨n, n1, n2, rfl⟩ := mid (a := 0) (b := 99) b1 b2 (by decide)
    have hx : nI n = nI n - (if 2 = 5 ∨ 2 = 6 then 1 else 0) := by rw [if_neg (by decide), Int32.sub_zero]
    refine ⟨m.1 (8 + k) 2, mj_wI m (8 + k) 2 (nI n), _, ?_, ?_, Rel_hf h h1 (f := 2) (by omega) hk (cA_lo 2 k (by omega)) hx (Good_up h1.1 (by omega) (by omega))⟩
    · unfold f_X8_alter f_X8_alter_42
      rw [a1, bind_some', if_neg (by decide), if_neg (by decide), if_neg (by decide), if_neg b1, if_neg (by decide), if_pos (show nI n ≤ 99 from (nI_le n2 (by decide) : nI n ≤ nI 99)), mj_ck_t b4, if_pos rfl, ck]; rfl
    · unfold f_X9_alter
      rw [isH9_w h1 N (by omega), isH9' h1 N hk, bind_some', if_neg (by decide), if_pos rfl, if_neg b1, if_neg b2, mj_ck_t (bb_103 (by omega)), ck, mw_eq, mw_eq]
      rw [show (mj_wI m (8 + k) 2 (nI n)).1 103 k = m.1 (8 + k) 2 by rw [wI_1, up_n _ _ _ _ (by omega), m_day h1 hk, c_day h1 hk]]
  by_cases a3 : w = 1 ∧ ¬ x < 0 ∧ ¬ 99 < x
  · obtain ⟨rfl, b1, b2⟩ := a3
    obtain ⟨n, n1, n2, rfl⟩ := mid (a := 0) (b := 99) b1 b2 (by decide)
    have hx : nI n = nI n - (if 3 = 5 ∨ 3 = 6 then 1 else 0) := by rw [if_neg (by decide), Int32.sub_zero]
    refine ⟨m.1 (8 + k) 3, mj_wI m (8 + k) 3 (nI n), _, ?_, ?_, Rel_hf h h1 (f := 3) (by omega) hk (cA_lo 3 k (by omega)) hx (Good_up h1.1 (by omega) (by omega))⟩
    · unfold f_X8_alter f_X8_alter_42
      rw [a1, bind_some', if_neg (by decide), if_neg (by decide), if_neg (by decide), if_neg b1, if_neg (by decide), if_pos (show nI n ≤ 99 from (nI_le n2 (by decide) : nI n ≤ nI 99)), mj_ck_t b4, if_neg (by decide), if_pos rfl, ck]; rfl
    · unfold f_X9_alter f_X9_alter_46
      rw [isH9_w h1 N (by omega), isH9' h1 N hk, bind_some', if_neg (by decide), if_neg (by decide), if_pos rfl, if_neg b1, if_neg b2, mj_ck_t (bb_104 (by omega)), ck, mw_eq, mw_eq]
      rw [show (mj_wI m (8 + k) 3 (nI n)).1 104 k = m.1 (8 + k) 3 by rw [wI_1, up_n _ _ _ _ (by omega), m_night h1 hk, c_night h1 hk]]
  by_cases a4 : w = 2 ∧ ¬ x < 0 ∧ ¬ 2 < x
  · obtain ⟨rfl, b1, b2⟩ := a4
    obtain ⟨n, n1, n2, rfl⟩ := mid (a := 0) (b := 2) b1 b2 (by decide)
    have hx : nI n = nI n - (if 7 = 5 ∨ 7 = 6 then 1 else 0) := by rw [if_neg (by decide), Int32.sub_zero]
    refine ⟨m.1 5 k, mj_wI m 5 k (nI n), _, ?_, ?_, Rel_hf h h1 (f := 7) (by omega) hk rfl hx (Good_up h1.1 (by omega) (by omega))⟩
    · unfold f_X8_alter f_X8_alter_42
      rw [a1, bind_some', if_neg (by decide), if_neg (by decide), if_neg (by decide), if_neg b1, if_pos rfl, if_pos (show nI n ≤ 2 from (nI_le n2 (by decide) : nI n ≤ nI 2)), mj_ck_t b4, if_neg (by decide), if_neg (by decide), mj_ck_t (bb_5 (by omega)), ck]; rfl
    · unfold f_X9_alter f_X9_alter_46 f_X9_alter_79
      rw [isH9_w h1 N (by omega), isH9' h1 N hk, bind_some', if_neg (by decide), if_neg (by decide), if_neg (by decide), if_pos rfl, if_neg b1, if_neg b2, mj_ck_t (bb_108 (by omega)), ck, mw_eq, mw_eq]
      rw [show (mj_wI m 5 k (nI n)).1 108 k = m.1 5 k by rw [wI_1, up_n _ _ _ _ (by omega), m_steps h1 hk, c_steps h1 hk]]
  have e8 : f_X8_alter N (nI k) w x m = some (-6, rfu m 6) := by
    have z : f_X8_alter_45 N m = some (-6, rfu m 6) := by unfold f_X8_alter_45; rw [rf8_6]; rfl
    have o : ¬ w < 0 → ¬ 2 < w → w = 0 ∨ w = 1 ∨ w = 2 := by
      intro o1 o2
      obtain ⟨n, n1, n2, rfl⟩ := mid (a := 0) (b := 2) o1 o2 (by decide)
      rcases (by omega : n = 0 ∨ n = 1 ∨ n = 2) with rfl | rfl | rfl
      · exact Or.inl rfl
      · exact Or.inr (Or.inl rfl)
      · exact Or.inr (Or.inr rfl)
    have l : ∀ c : Int32, x ≤ c → ¬ c < x := fun c q r => by
      rw [Int32.le_iff_toInt_le] at q; rw [Int32.lt_iff_toInt_lt] at r; omega
    unfold f_X8_alter f_X8_alter_42
    rw [z, a1, bind_some', if_neg (by decide)]
    split
    · rfl
    split
    · rfl
    rename_i o1 o2
    split
    · rfl
    rename_i o3
    split
    · rename_i o4
      rw [if_neg (fun q => a4 ⟨o4, o3, l _ q⟩)]
    · rename_i o4
      rw [if_neg]
      intro q
      rcases o o1 o2 with r | r | r
      · exact a0 ⟨r, o3, l _ q⟩
      · exact a3 ⟨r, o3, l _ q⟩
      · exact o4 r
  have e9 : f_X9_alter N (nI k) w x (rfu m 6) = some (-6, rfm (rfu m 6) 6) := by
    have z : f_X9_alter_111 N (rfu m 6) = some (-6, rfm (rfu m 6) 6) := by unfold f_X9_alter_111; rw [rf9_6]; rfl
    unfold f_X9_alter f_X9_alter_46 f_X9_alter_79
    rw [z, isH9' (RT_rfu h1 6) N hk, bind_some', if_neg (by decide)]
    repeat' split
    all_goals first | rfl | (exfalso; simp_all; done)
  exact ⟨_, _, _, e8, e9, Rel_rf h 6⟩
/-- a town that grows by one, its number n: the fields f1 to f2 of the new one, the count j -/
def grow (t : aT) (f1 f2 j : Nat) (x : Nat → Nat) : aT := fun f i => if f = 13 ∧ i = j then t 13 j + 1 else if f1 ≤ f ∧ f ≤ f2 ∧ i = t 13 j then x f else t f i
theorem Rep_grow {g g' : Nat → Nat → Int32} {t : aT} {u : Nat → Int32} {f1 f2 j : Nat} (x : Nat → Nat) (h : Rep g t u) (hG : Good t) (hj : (j = 0 ∧ f1 = 9 ∧ f2 = 10 ∧ t 13 0 < 12) ∨ (j = 1 ∧ f1 = 0 ∧ f2 = 8 ∧ t 13 1 < 10) ∨ (j = 2 ∧ f1 = 11 ∧ f2 = 12 ∧ t 13 2 < 4))
    (e0 : ∀ a b, dm a b → ¬ (f1 ≤ a ∧ a ≤ f2 ∧ b = t 13 j) → ¬ (a = 13 ∧ b = j) → g' a b = g a b) (e1 : g' 13 j = nI (t 13 j + 1)) (e2 : ∀ f, f1 ≤ f → f ≤ f2 → g' f (t 13 j) = nI (x f) - (if f = 5 ∨ f = 6 then 1 else 0)) : Rep g' (grow t f1 f2 j x) u := by
  obtain ⟨h1, h2, h3, h4, h5⟩ := h
  obtain ⟨⟨b1, b2, b3, -⟩, -⟩ := hG
  have c : ∀ i, grow t f1 f2 j x 13 i = if i = j then t 13 j + 1 else t 13 i := by
    intro i
    unfold grow
    by_cases q : i = j
    · rw [if_pos ⟨rfl, q⟩, if_pos q]
    · rw [if_neg (fun z => q z.2), if_neg (by omega), if_neg q]
  have c2 : ∀ f i, f < 13 → grow t f1 f2 j x f i = if f1 ≤ f ∧ f ≤ f2 ∧ i = t 13 j then x f else t f i := by
    intro f i hf
    unfold grow
    rw [if_neg (by omega)]
  refine ⟨fun i hi => ?_, fun i hi => ?_, fun f hf i hi => ?_, fun f hf i hi => ?_, fun f hf i hi => ?_⟩
  · rw [c]
    by_cases q : i = j
    · rw [if_pos q, q]; exact e1
    · rw [if_neg q, e0 13 i ⟨by omega, by simpa using hi⟩ (by omega) (by omega)]; exact h1 i hi
  · rw [e0 14 i ⟨by omega, by simpa using hi⟩ (by omega) (by omega)]; exact h2 i hi
  · rw [c] at hi
    rw [c2 f i (by omega)]
    by_cases q : f1 ≤ f ∧ f ≤ f2 ∧ i = t 13 j
    · rw [if_pos q, q.2.2]; exact e2 f q.1 q.2.1
    · rw [if_neg q]
      have hi' : i < t 13 1 := by
        by_cases q2 : 1 = j
        · rw [if_pos q2] at hi; subst q2; omega
        · rw [if_neg q2] at hi; exact hi
      rw [e0 f i ⟨by omega, by rw [if_pos hf]; omega⟩ q (by omega)]; exact h3 f hf i hi'
  · rw [c] at hi
    rw [c2 f i (by omega)]
    by_cases q : f1 ≤ f ∧ f ≤ f2 ∧ i = t 13 j
    · rw [if_pos q, q.2.2]
      have := e2 f q.1 q.2.1
      rw [if_neg (by omega), Int32.sub_zero] at this
      exact this
    · rw [if_neg q]
      have hi' : i < t 13 0 := by
        by_cases q2 : 0 = j
        · rw [if_pos q2] at hi; subst q2; omega
        · rw [if_neg q2] at hi; exact hi
      rw [e0 f i ⟨by omega, by rw [if_neg (by omega), if_pos (by omega)]; omega⟩ q (by omega)]; exact h4 f hf i hi'
  · rw [c] at hi
    rw [c2 f i (by omega)]
    by_cases q : f1 ≤ f ∧ f ≤ f2 ∧ i = t 13 j
    · rw [if_pos q, q.2.2]
      have := e2 f q.1 q.2.1
      rw [if_neg (by omega), Int32.sub_zero] at this
      exact this
    · rw [if_neg q]
      have hi' : i < t 13 2 := by
        by_cases q2 : 2 = j
        · rw [if_pos q2] at hi; subst q2; omega
        · rw [if_neg q2] at hi; exact hi
      rw [e0 f i ⟨by omega, by rw [if_neg (by omega), if_neg (by omega), if_pos (by omega)]; omega⟩ q (by omega)]; exact h5 f hf i hi'
theorem Good_grow {t : aT} {f1 f2 j : Nat} (x : Nat → Nat) (hG : Good t) (hj : (j = 0 ∧ f1 = 9 ∧ f2 = 10 ∧ t 13 0 < 12) ∨ (j = 1 ∧ f1 = 0 ∧ f2 = 8 ∧ t 13 1 < 10) ∨ (j = 2 ∧ f1 = 11 ∧ f2 = 12 ∧ t 13 2 < 4))
    (hx : (j = 0 → x 9 < 8 ∧ x 10 < 8) ∧ (j = 1 → x 0 < 8 ∧ x 1 ≤ 9 ∧ x 2 ≤ 99 ∧ x 3 ≤ 99 ∧ (1 ≤ x 4 ∧ x 4 ≤ 99) ∧ x 5 ≤ t 13 0 ∧ x 6 ≤ t 13 1 ∧ x 7 ≤ 2 ∧ x 8 ≤ 1) ∧ (j = 2 → x 11 ≤ 99 ∧ x 12 ≤ 9)) : Good (grow t f1 f2 j x) := by
  obtain ⟨g1, g2, g3, g4⟩ := hG
  rcases hj with ⟨rfl, rfl, rfl, hj⟩ | ⟨rfl, rfl, rfl, hj⟩ | ⟨rfl, rfl, rfl, hj⟩
  · have hx := hx.1 rfl
    refine ⟨by simp [grow]; omega, fun b hb => ?_, fun b hb => ?_, fun b hb => ?_⟩
    · simp [grow] at hb ⊢
      have := g2 b hb
      omega
    · simp [grow] at hb ⊢
      by_cases q : b = t 13 0
      · simp [q]; omega
      · have := g3 b (by omega)
        simp [q]; omega
    · simp [grow] at hb ⊢
      have := g4 b hb
      omega
  · have hx := hx.2.1 rfl
    refine ⟨by simp [grow]; omega, fun b hb => ?_, fun b hb => ?_, fun b hb => ?_⟩
    · simp [grow] at hb ⊢
      by_cases q : b = t 13 1
      · simp [q]; omega
      · have := g2 b (by omega)
        simp [q]; omega
    · simp [grow] at hb ⊢
      have := g3 b hb
      omega
    · simp [grow] at hb ⊢
      have := g4 b hb
      omega
  · have hx := hx.2.2 rfl
    refine ⟨by simp [grow]; omega, fun b hb => ?_, fun b hb => ?_, fun b hb => ?_⟩
    · simp [grow] at hb ⊢
      have := g2 b hb
      omega
    · simp [grow] at hb ⊢
      have := g3 b hb
      omega
    · simp [grow] at hb ⊢
      by_cases q : b = t 13 2
      · simp [q]; omega
      · have := g4 b (by omega)
        simp [q]; omega
