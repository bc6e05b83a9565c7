/-! THE CALLS, further: ask, front, next, prop -/
theorem Good_up {t : aT} {f i v : Nat} (h : Good t) (hf : f < 13) (hv : (f = 0 → v < 8) ∧ (f = 1 → v ≤ 9) ∧ (f = 2 → v ≤ 99) ∧ (f = 3 → v ≤ 99) ∧ (f = 4 → 1 ≤ v ∧ v ≤ 99) ∧ (f = 5 → v ≤ t 13 0) ∧ (f = 6 → v ≤ t 13 1) ∧ (f = 7 → v ≤ 2) ∧ (f = 8 → v ≤ 1) ∧ (f = 9 → v < 8) ∧ (f = 10 → v < 8) ∧ (f = 11 → v ≤ 99) ∧ (f = 12 → v ≤ 9)) : Good (mj_up t f i v) := by
  obtain ⟨h1, h2, h3, h4⟩ := h
  have c : ∀ a, mj_up t f i v 13 a = t 13 a := fun a => by rw [up_at, if_neg (by omega)]
  refine ⟨by simp only [c]; exact h1, fun b hb => ?_, fun b hb => ?_, fun b hb => ?_⟩
  · rw [c] at hb
    have g := h2 b hb
    simp only [c, up_at]
    refine ⟨?_, ?_, ?_, ?_, ⟨?_, ?_⟩, ?_, ?_, ?_, ?_⟩ <;> (split <;> omega)
  · rw [c] at hb
    have g := h3 b hb
    simp only [up_at]
    refine ⟨?_, ?_⟩ <;> (split <;> omega)
  · rw [c] at hb
    have g := h4 b hb
    simp only [up_at]
    refine ⟨?_, ?_⟩ <;> (split <;> omega)
theorem Good_sc {t : aT} {i v : Nat} (h : Good t) (hi : 3 ≤ i) (hv : (i = 3 → 1 ≤ v ∧ v ≤ 999) ∧ (i = 4 → v ≤ 10) ∧ (i = 5 → v ≤ 10)) : Good (mj_up t 13 i v) := by
  obtain ⟨h1, h2, h3, h4⟩ := h
  have c : ∀ a, a < 3 → mj_up t 13 i v 13 a = t 13 a := fun a ha => by rw [up_at, if_neg (by omega)]
  have c2 : ∀ a b, a < 13 → mj_up t 13 i v a b = t a b := fun a b ha => by rw [up_at, if_neg (by omega)]
  refine ⟨?_, fun b hb => ?_, fun b hb => ?_, fun b hb => ?_⟩
  · rw [c 0 (by omega), c 1 (by omega), c 2 (by omega)]
    simp only [up_at]
    refine ⟨h1.1, h1.2.1, h1.2.2.1, ⟨?_, ?_⟩, ?_, ?_⟩ <;> (split <;> omega)
  · rw [c 1 (by omega)] at hb
    rw [c 0 (by omega), c 1 (by omega)]
    simp only [c2 _ b (show 0 < 13 by omega), c2 _ b (show 1 < 13 by omega), c2 _ b (show 2 < 13 by omega), c2 _ b (show 3 < 13 by omega), c2 _ b (show 4 < 13 by omega), c2 _ b (show 5 < 13 by omega), c2 _ b (show 6 < 13 by omega), c2 _ b (show 7 < 13 by omega), c2 _ b (show 8 < 13 by omega)]
    exact h2 b hb
  · rw [c 0 (by omega)] at hb
    rw [c2 _ b (by omega), c2 _ b (by omega)]
    exact h3 b hb
  · rw [c 2 (by omega)] at hb
    rw [c2 _ b (by omega), c2 _ b (by omega)]
    exact h4 b hb
/-- a new town on both sides, all else as it was -/
theorem Rel_T {m m' : mj_m} {t' : aT} {u' : Nat → Int32} (h : Rel m) (h1 : RT m' t' u') (h2 : RP m → RP m') (h3 : RF m → RF m') (h4 : RR m → RR m') (h5 : RS m → RS m') (h6 : RA m → RA m') (h7 : RW m → RW m') : Rel m' :=
  ⟨⟨t', u', h1⟩, h2 h.2.1, h3 h.2.2.1, h4 h.2.2.2.1, h5 h.2.2.2.2.1, h6 h.2.2.2.2.2.1, h7 h.2.2.2.2.2.2⟩
theorem Rel_TI {m : mj_m} {t' : aT} {u' : Nat → Int32} {a1 k1 a2 k2 : Nat} {v1 v2 : Int32} (h : Rel m) (h1 : RT (mj_wI (mj_wI m a1 k1 v1) a2 k2 v2) t' u') (q1 : 1 ≤ a1 ∧ a1 < 18) (q2 : (97 ≤ a2 ∧ a2 ≤ 109) ∨ (a2 = 95 ∧ k2 < 10)) (q3 : 8 ≤ a1 → k1 = 7 → b01 v1) : Rel (mj_wI (mj_wI m a1 k1 v1) a2 k2 v2) :=
  Rel_T h h1 (fun z => RP_wI (RP_wI z (by omega)) (by omega)) (fun z => RF_wI (RF_wI z (by omega)) (by omega)) (fun z => RR_wI (RR_wI z (by omega)) (by omega)) (fun z => RS_wI (RS_wI z (by omega)) (by omega)) (fun z => RA_wI (RA_wI z (by omega)) (by omega)) (fun z => RW_wI (RW_wX z (by omega) (fun q _ r => q3 q r)) (by omega))
theorem mid {x : Int32} {a b : Nat} (h1 : ¬ x < nI a) (h2 : ¬ nI b < x) (ha : a < 2 ^ 31) : ∃ n, a ≤ n ∧ n ≤ b ∧ x = nI n := by
  have h0 : ¬ x < 0 := by
    intro z
    apply h1
    rw [Int32.lt_iff_toInt_lt] at z ⊢
    rw [nI_toInt ha]
    have : (0 : Int32).toInt = 0 := by decide
    omega
  obtain ⟨j, hj, rfl⟩ := nI_of h0
  refine ⟨j, ?_, ?_, rfl⟩
  · rcases Nat.lt_or_ge j a with z | z
    · exact absurd (nI_lt z ha) h1
    · exact z
  · rcases Nat.lt_or_ge b j with z | z
    · exact absurd (nI_lt z hj) h2
    · exact z
theorem ca_ask_ok {m : mj_m} (h : Rel m) (N : Nat) (j n : Nat) (hj : j < 3) (hn : (j = 0 → 1 ≤ n ∧ n ≤ 999) ∧ (j = 1 → n ≤ 10) ∧ (j = 2 → n ≤ 10)) : Rel (mj_wI (mj_wI m 1 (9 + j) (nI n)) 95 (3 + j) (nI n)) ∧ (mj_wI m 1 (9 + j) (nI n)).1 95 (3 + j) = m.1 1 (9 + j) := by
  obtain ⟨t, u, h1⟩ := h.1
  refine ⟨Rel_TI (t' := mj_up t 13 (3 + j) n) (u' := u) h ⟨Good_sc h1.1 (by omega) (by omega), ?_, ?_⟩ (by omega) (by omega) (fun z => absurd z (by decide)), ?_⟩
  · have q := Rep_csc (i := 3 + j) (v := n) h1.1 h1.2.1 (by omega) (by omega)
    rw [show 6 + (3 + j) = 9 + j by omega] at q
    exact Rep_cn (Good_sc h1.1 (by omega) (by omega)) q (by omega)
  · exact Rep_msc (i := 3 + j) (v := n) h1.1 (Rep_mn h1.1 h1.2.2 (by omega)) (by omega) (by omega)
  · rw [wI_1, up_n _ _ _ _ (by omega)]
    have q1 := h1.2.1.1 (3 + j) (by omega)
    have q2 := h1.2.2.1 (3 + j) (by omega)
    rw [show m.1 95 (3 + j) = mg m 13 (3 + j) by rfl, q2, ← q1]
    show m.1 1 (6 + (3 + j)) = m.1 1 (9 + j)
    rw [show 6 + (3 + j) = 9 + j by omega]
theorem ca_ask {m : mj_m} (h : Rel m) (N : Nat) (v w : Int32) : Both (f_X8_ask N v w) (f_X9_ask N v w) m := by
  by_cases a0 : v = 0 ∧ ¬ w < 1 ∧ ¬ 999 < w
  · obtain ⟨rfl, b1, b2⟩ := a0
    obtain ⟨n, n1, n2, rfl⟩ := mid (a := 1) (b := 999) b1 b2 (by decide)
    obtain ⟨r1, r2⟩ := ca_ask_ok h N 0 n (by decide) (by omega)
    refine ⟨m.1 1 (9 + 0), mj_wI m 1 (9 + 0) (nI n), _, ?_, ?_, r1⟩
    · unfold f_X8_ask; rw [if_pos rfl, if_neg b1, if_neg b2]; rfl
    · unfold f_X9_ask; rw [if_pos rfl, if_neg b1, if_neg b2, mw_eq, mw_eq]; exact congrArg (fun z => some (z, _)) r2
  by_cases a1 : v = 1 ∧ ¬ w < 0 ∧ ¬ 10 < w
  · obtain ⟨rfl, b1, b2⟩ := a1
    obtain ⟨n, n1, n2, rfl⟩ := mid (a := 0) (b := 10) b1 b2 (by decide)
    obtain ⟨r1, r2⟩ := ca_ask_ok h N 1 n (by decide) (by omega)
    refine ⟨m.1 1 (9 + 1), mj_wI m 1 (9 + 1) (nI n), _, ?_, ?_, r1⟩
    · unfold f_X8_ask f_X8_ask_35; rw [if_neg (by decide), if_pos rfl, if_neg b1, if_neg b2]; rfl
    · unfold f_X9_ask f_X9_ask_29; rw [if_neg (by decide), if_pos rfl, if_neg b1, if_neg b2, mw_eq, mw_eq]; exact congrArg (fun z => some (z, _)) r2
  by_cases a2 : v = 2 ∧ ¬ w < 0 ∧ ¬ 10 < w
  · obtain ⟨rfl, b1, b2⟩ := a2
    obtain ⟨n, n1, n2, rfl⟩ := mid (a := 0) (b := 10) b1 b2 (by decide)
    obtain ⟨r1, r2⟩ := ca_ask_ok h N 2 n (by decide) (by omega)
    refine ⟨m.1 1 (9 + 2), mj_wI m 1 (9 + 2) (nI n), _, ?_, ?_, r1⟩
    · unfold f_X8_ask f_X8_ask_35 f_X8_ask_69; rw [if_neg (by decide), if_neg (by decide), if_pos rfl, if_neg b1, if_neg b2]; rfl
    · unfold f_X9_ask f_X9_ask_29 f_X9_ask_57; rw [if_neg (by decide), if_neg (by decide), if_pos rfl, if_neg b1, if_neg b2, mw_eq, mw_eq]; exact congrArg (fun z => some (z, _)) r2
  · have e8 : f_X8_ask N v w m = some (-6, rfu m 6) := by
      have z : f_X8_ask_103 N m = some (-6, rfu m 6) := by unfold f_X8_ask_103; rw [rf8_6]; rfl
      unfold f_X8_ask f_X8_ask_35 f_X8_ask_69
      rw [z]
      repeat' split
      all_goals first | rfl | (exfalso; simp_all; done)
    have e9 : f_X9_ask N v w (rfu m 6) = some (-6, rfm (rfu m 6) 6) := by
      have z : f_X9_ask_85 N (rfu m 6) = some (-6, rfm (rfu m 6) 6) := by unfold f_X9_ask_85; rw [rf9_6]; rfl
      unfold f_X9_ask f_X9_ask_29 f_X9_ask_57
      rw [z]
      repeat' split
      all_goals first | rfl | (exfalso; simp_all; done)
    exact ⟨_, _, _, e8, e9, Rel_rf h 6⟩
