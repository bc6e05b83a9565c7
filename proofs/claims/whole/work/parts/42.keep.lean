/-! WHAT A WRITE ELSEWHERE LEAVES; the refusals -/
theorem RT_wI {m : mj_m} {t : aT} {u : Nat → Int32} {a k : Nat} {v : Int32} (h : RT m t u) (q : a = 0 ∨ (18 ≤ a ∧ a < 95) ∨ (a = 95 ∧ 10 ≤ k) ∨ a = 96 ∨ 110 ≤ a) : RT (mj_wI m a k v) t u := by
  refine ⟨h.1, Rep_same h.2.1 h.1 (fun f i hd => gA_n ?_), Rep_same h.2.2 h.1 (fun f i hd => gA_n ?_)⟩
  · have := cA_rng (b := 1) (d := 8) rfl hd; omega
  · have := mA_rng hd; omega
theorem RT_wL {m : mj_m} {t : aT} {u : Nat → Int32} {a k : Nat} {v : Int64} (h : RT m t u) : RT (mj_wL m a k v) t u := h
theorem RP_wI {m : mj_m} {a k : Nat} {v : Int32} (h : RP m) (q : (a ≠ 0 ∨ k ≠ 10) ∧ (a < 18 ∨ 35 ≤ a) ∧ a ≠ 119 ∧ (a ≠ 95 ∨ k ≠ 55)) : RP (mj_wI m a k v) := by
  have e1 : (mj_wI m a k v).1 95 55 = m.1 95 55 := by simp only [wI_1, up_at]; rw [if_neg (by omega)]
  have e2 : (mj_wI m a k v).1 0 10 = m.1 0 10 := by simp only [wI_1, up_at]; rw [if_neg (by omega)]
  obtain ⟨h1, h2⟩ := h
  refine ⟨by rw [e1, e2]; exact h1, ?_⟩
  rw [e2]
  rcases h2 with h2 | ⟨h2, t, u, h3, h4, h5⟩
  · exact Or.inl h2
  · refine Or.inr ⟨h2, t, u, h3, Rep_same h4 h3 (fun f i hd => gA_n ?_), Rep_same h5 h3 (fun f i hd => gA_n ?_)⟩
    · have := cA_rng (b := 18) (d := 25) rfl hd; omega
    · have := kA_rng (a := 119) hd; omega
theorem RP_wL {m : mj_m} {a k : Nat} {v : Int64} (h : RP m) : RP (mj_wL m a k v) := h
theorem RF_wI {m : mj_m} {a k : Nat} {v : Int32} (h : RF m) (q : (a ≠ 0 ∨ k ≠ 11) ∧ (a ≠ 95 ∨ k ≠ 10)) : RF (mj_wI m a k v) := by
  unfold RF
  simp only [wI_1, up_at]
  rw [if_neg (by omega), if_neg (by omega)]
  exact h
theorem RF_wL {m : mj_m} {a k : Nat} {v : Int64} (h : RF m) : RF (mj_wL m a k v) := h
theorem RR_wI {m : mj_m} {a k : Nat} {v : Int32} (h : RR m) (q : a ≠ 77 ∧ a ≠ 96) : RR (mj_wI m a k v) := by
  intro i hi
  simp only [wI_1, up_at]
  rw [if_neg (by omega), if_neg (by omega)]
  exact h i hi
theorem RR_wL {m : mj_m} {a k : Nat} {v : Int64} (h : RR m) : RR (mj_wL m a k v) := h
theorem ShR_same {m m' : mj_m} {s : Nat} (h : ShR m s) (e1 : ∀ a, 110 ≤ a → a ≤ 114 → m'.1 a s = m.1 a s) (e2 : ∀ k, m'.1 (79 + 2 * s) k = m.1 (79 + 2 * s) k) (e3 : ∀ i, i < 120 → m'.2 (80 + 2 * s) i = m.2 (80 + 2 * s) i ∧ m'.2 115 (120 * s + i) = m.2 115 (120 * s + i)) : ShR m' s := by
  have a0 := e1 110 (by omega) (by omega)
  have a1 := e1 111 (by omega) (by omega)
  have a2 := e1 112 (by omega) (by omega)
  have a3 := e1 113 (by omega) (by omega)
  have a4 := e1 114 (by omega) (by omega)
  unfold ShR
  rw [a0, a1, a2, a3, a4, e2 1, e2 2, e2 3]
  rcases h with h | ⟨o, n, ho, hn, h1, h2, h3, h4, h5, h6⟩ | ⟨k, hk, h1, h2, h3, h4, h5, h6⟩
  · exact Or.inl h
  · exact Or.inr (Or.inl ⟨o, n, ho, hn, h1, h2, h3, h4, h5, fun i hi => by rw [(e3 i (by omega)).1, (e3 i (by omega)).2]; exact h6 i hi⟩)
  · refine Or.inr (Or.inr ⟨k, hk, h1, h2, h3, h4, h5, ?_⟩)
    rcases h6 with h6 | ⟨h6, n, hn, h7, h8, h9⟩
    · exact Or.inl h6
    · exact Or.inr ⟨h6, n, hn, h7, h8, fun i hi => by rw [(e3 i (by omega)).1, (e3 i (by omega)).2]; exact h9 i hi⟩
theorem RS_wI {m : mj_m} {a k : Nat} {v : Int32} (h : RS m) (q : (a < 79 ∨ 95 ≤ a) ∧ (a < 110 ∨ 115 ≤ a)) : RS (mj_wI m a k v) := by
  intro s hs
  refine ShR_same (h s hs) (fun b h1 h2 => up_n _ _ _ _ (by omega)) (fun b => up_n _ _ _ _ (by omega)) (fun _ _ => ⟨rfl, rfl⟩)
theorem RS_wL {m : mj_m} {a k : Nat} {v : Int64} (h : RS m) (q : (a < 80 ∨ 95 ≤ a) ∧ a ≠ 115) : RS (mj_wL m a k v) := by
  intro s hs
  refine ShR_same (h s hs) (fun b h1 h2 => rfl) (fun b => rfl) (fun _ _ => ⟨up_n _ _ _ _ (by omega), up_n _ _ _ _ (by omega)⟩)
theorem RA_wI {m : mj_m} {a k : Nat} {v : Int32} (h : RA m) (q : (a ≠ 75 ∨ k ≠ 1) ∧ a ≠ 76 ∧ (a ≠ 95 ∨ k ≠ 54) ∧ a ≠ 127) : RA (mj_wI m a k v) := by
  obtain ⟨n, hn, h1, h2, h3⟩ := h
  refine ⟨n, hn, ?_, ?_, fun i h4 h5 => ?_⟩
  · simp only [wI_1, up_at]; rw [if_neg (by omega)]; exact h1
  · simp only [wI_1, up_at]; rw [if_neg (by omega)]; exact h2
  · simp only [wI_1, up_at]; rw [if_neg (by omega), if_neg (by omega)]; exact h3 i h4 h5
theorem RA_wL {m : mj_m} {a k : Nat} {v : Int64} (h : RA m) : RA (mj_wL m a k v) := h
theorem RB_wX {m : mj_m} {a k : Nat} {v : Int32} (h : RB m) (q : 8 ≤ a → a < 35 → k = 7 → b01 v) : RB (mj_wI m a k v) := by
  refine RB_of h (fun b hb => ?_)
  simp only [wI_1, up_at]
  by_cases y : b = a ∧ 7 = k
  · rw [if_pos y]; exact Or.inr (q (by omega) (by omega) y.2.symm)
  · rw [if_neg y]; exact Or.inl rfl
theorem RW_wX {m : mj_m} {a k : Nat} {v : Int32} (h : RW m) (q : a ≠ 117) (q2 : 8 ≤ a → a < 35 → k = 7 → b01 v) : RW (mj_wI m a k v) := by
  refine ⟨?_, RB_wX h.2 q2⟩
  intro i hi
  simp only [wI_1, up_at]
  rw [if_neg (by omega)]
  exact h.1 i hi
theorem RW_wI {m : mj_m} {a k : Nat} {v : Int32} (h : RW m) (q : a ≠ 117 ∧ (k ≠ 7 ∨ a < 8 ∨ 35 ≤ a)) : RW (mj_wI m a k v) := RW_wX h q.1 (fun q1 q2 q3 => absurd q (by omega))
theorem RW_wL {m : mj_m} {a k : Nat} {v : Int64} (h : RW m) : RW (mj_wL m a k v) := h
/-- both refuse: the counts stay alike -/
def rfu (m : mj_m) (n : Nat) : mj_m := mj_wI m 77 n (m.1 77 n + 1)
def rfm (m : mj_m) (n : Nat) : mj_m := mj_wI m 96 n (m.1 96 n + 1)
theorem Rel_rf {m : mj_m} (h : Rel m) (n : Nat) : Rel (rfm (rfu m n) n) := by
  obtain ⟨⟨t, u, h1⟩, h2, h3, h4, h5, h6, h7⟩ := h
  refine ⟨⟨t, u, RT_wI (RT_wI h1 (by omega)) (by omega)⟩, RP_wI (RP_wI h2 (by omega)) (by omega), RF_wI (RF_wI h3 (by omega)) (by omega), ?_, RS_wI (RS_wI h5 (by omega)) (by omega), RA_wI (RA_wI h6 (by omega)) (by omega), RW_wI (RW_wI h7 (by omega)) (by omega)⟩
  intro i hi
  have h := h4 i hi
  simp only [rfm, rfu, wI_1, up_at]
  by_cases q : i = n
  · subst q; simp [h]
  · simp [q, h]
theorem rf8_1 (N : Nat) (m : mj_m) : f_X8_refuse N 1 m = some (-1, rfu m 1) := by
  unfold f_X8_refuse f_X8_refuse_20
  rw [if_neg (by decide), if_neg (by decide), mj_ck_t (by decide)]
  rfl
theorem rf9_1 (N : Nat) (m : mj_m) : f_X9_no N (-1) m = some (-1, rfm m 1) := by
  unfold f_X9_no
  rw [mj_ck_t (by decide)]
  rfl
theorem rb8_1 (N : Nat) (m : mj_m) : f_X8_refuseBelowTen N 1 m = some (-11, rfu m 1) := by
  unfold f_X8_refuseBelowTen
  rw [rf8_1]
  show some ((-1 : Int32) - 10, rfu m 1) = _
  rw [show (-1 : Int32) - 10 = -11 by decide]
theorem rb9_1 (N : Nat) (m : mj_m) : f_X9_noTen N (-1) m = some (-11, rfm m 1) := by
  unfold f_X9_noTen
  rw [mj_ck_t (by decide)]
  rfl
theorem rl8_1 (N : Nat) (m : mj_m) : f_X8_refuseFar N 1 m = some (-1000001, rfu m 1) := by
  unfold f_X8_refuseFar
  rw [rf8_1]
  show some ((-1 : Int32).toInt64 - 1000000, rfu m 1) = _
  rw [show (-1 : Int32).toInt64 - 1000000 = -1000001 by decide]
theorem rl9_1 (N : Nat) (m : mj_m) : f_X9_noLow N (-1) m = some (-1000001, rfm m 1) := by
  unfold f_X9_noLow
  rw [mj_ck_t (by decide)]
  rfl
theorem rf8_2 (N : Nat) (m : mj_m) : f_X8_refuse N 2 m = some (-2, rfu m 2) := by
  unfold f_X8_refuse f_X8_refuse_20
  rw [if_neg (by decide), if_neg (by decide), mj_ck_t (by decide)]
  rfl
theorem rf9_2 (N : Nat) (m : mj_m) : f_X9_no N (-2) m = some (-2, rfm m 2) := by
  unfold f_X9_no
  rw [mj_ck_t (by decide)]
  rfl
theorem rb8_2 (N : Nat) (m : mj_m) : f_X8_refuseBelowTen N 2 m = some (-12, rfu m 2) := by
  unfold f_X8_refuseBelowTen
  rw [rf8_2]
  show some ((-2 : Int32) - 10, rfu m 2) = _
  rw [show (-2 : Int32) - 10 = -12 by decide]
theorem rb9_2 (N : Nat) (m : mj_m) : f_X9_noTen N (-2) m = some (-12, rfm m 2) := by
  unfold f_X9_noTen
  rw [mj_ck_t (by decide)]
  rfl
theorem rl8_2 (N : Nat) (m : mj_m) : f_X8_refuseFar N 2 m = some (-1000002, rfu m 2) := by
  unfold f_X8_refuseFar
  rw [rf8_2]
  show some ((-2 : Int32).toInt64 - 1000000, rfu m 2) = _
  rw [show (-2 : Int32).toInt64 - 1000000 = -1000002 by decide]
theorem rl9_2 (N : Nat) (m : mj_m) : f_X9_noLow N (-2) m = some (-1000002, rfm m 2) := by
  unfold f_X9_noLow
  rw [mj_ck_t (by decide)]
  rfl
theorem rf8_3 (N : Nat) (m : mj_m) : f_X8_refuse N 3 m = some (-3, rfu m 3) := by
  unfold f_X8_refuse f_X8_refuse_20
  rw [if_neg (by decide), if_neg (by decide), mj_ck_t (by decide)]
  rfl
theorem rf9_3 (N : Nat) (m : mj_m) : f_X9_no N (-3) m = some (-3, rfm m 3) := by
  unfold f_X9_no
  rw [mj_ck_t (by decide)]
  rfl
theorem rb8_3 (N : Nat) (m : mj_m) : f_X8_refuseBelowTen N 3 m = some (-13, rfu m 3) := by
  unfold f_X8_refuseBelowTen
  rw [rf8_3]
  show some ((-3 : Int32) - 10, rfu m 3) = _
  rw [show (-3 : Int32) - 10 = -13 by decide]
theorem rb9_3 (N : Nat) (m : mj_m) : f_X9_noTen N (-3) m = some (-13, rfm m 3) := by
  unfold f_X9_noTen
  rw [mj_ck_t (by decide)]
  rfl
theorem rl8_3 (N : Nat) (m : mj_m) : f_X8_refuseFar N 3 m = some (-1000003, rfu m 3) := by
  unfold f_X8_refuseFar
  rw [rf8_3]
  show some ((-3 : Int32).toInt64 - 1000000, rfu m 3) = _
  rw [show (-3 : Int32).toInt64 - 1000000 = -1000003 by decide]
theorem rl9_3 (N : Nat) (m : mj_m) : f_X9_noLow N (-3) m = some (-1000003, rfm m 3) := by
  unfold f_X9_noLow
  rw [mj_ck_t (by decide)]
  rfl
theorem rf8_4 (N : Nat) (m : mj_m) : f_X8_refuse N 4 m = some (-4, rfu m 4) := by
  unfold f_X8_refuse f_X8_refuse_20
  rw [if_neg (by decide), if_neg (by decide), mj_ck_t (by decide)]
  rfl
theorem rf9_4 (N : Nat) (m : mj_m) : f_X9_no N (-4) m = some (-4, rfm m 4) := by
  unfold f_X9_no
  rw [mj_ck_t (by decide)]
  rfl
theorem rb8_4 (N : Nat) (m : mj_m) : f_X8_refuseBelowTen N 4 m = some (-14, rfu m 4) := by
  unfold f_X8_refuseBelowTen
  rw [rf8_4]
  show some ((-4 : Int32) - 10, rfu m 4) = _
  rw [show (-4 : Int32) - 10 = -14 by decide]
theorem rb9_4 (N : Nat) (m : mj_m) : f_X9_noTen N (-4) m = some (-14, rfm m 4) := by
  unfold f_X9_noTen
  rw [mj_ck_t (by decide)]
  rfl
theorem rl8_4 (N : Nat) (m : mj_m) : f_X8_refuseFar N 4 m = some (-1000004, rfu m 4) := by
  unfold f_X8_refuseFar
  rw [rf8_4]
  show some ((-4 : Int32).toInt64 - 1000000, rfu m 4) = _
  rw [show (-4 : Int32).toInt64 - 1000000 = -1000004 by decide]
theorem rl9_4 (N : Nat) (m : mj_m) : f_X9_noLow N (-4) m = some (-1000004, rfm m 4) := by
  unfold f_X9_noLow
  rw [mj_ck_t (by decide)]
  rfl
theorem rf8_5 (N : Nat) (m : mj_m) : f_X8_refuse N 5 m = some (-5, rfu m 5) := by
  unfold f_X8_refuse f_X8_refuse_20
  rw [if_neg (by decide), if_neg (by decide), mj_ck_t (by decide)]
  rfl
theorem rf9_5 (N : Nat) (m : mj_m) : f_X9_no N (-5) m = some (-5, rfm m 5) := by
  unfold f_X9_no
  rw [mj_ck_t (by decide)]
  rfl
theorem rb8_5 (N : Nat) (m : mj_m) : f_X8_refuseBelowTen N 5 m = some (-15, rfu m 5) := by
  unfold f_X8_refuseBelowTen
  rw [rf8_5]
  show some ((-5 : Int32) - 10, rfu m 5) = _
  rw [show (-5 : Int32) - 10 = -15 by decide]
theorem rb9_5 (N : Nat) (m : mj_m) : f_X9_noTen N (-5) m = some (-15, rfm m 5) := by
  unfold f_X9_noTen
  rw [mj_ck_t (by decide)]
  rfl
theorem rl8_5 (N : Nat) (m : mj_m) : f_X8_refuseFar N 5 m = some (-1000005, rfu m 5) := by
  unfold f_X8_refuseFar
  rw [rf8_5]
  show some ((-5 : Int32).toInt64 - 1000000, rfu m 5) = _
  rw [show (-5 : Int32).toInt64 - 1000000 = -1000005 by decide]
theorem rl9_5 (N : Nat) (m : mj_m) : f_X9_noLow N (-5) m = some (-1000005, rfm m 5) := by
  unfold f_X9_noLow
  rw [mj_ck_t (by decide)]
  rfl
theorem rf8_6 (N : Nat) (m : mj_m) : f_X8_refuse N 6 m = some (-6, rfu m 6) := by
  unfold f_X8_refuse f_X8_refuse_20
  rw [if_neg (by decide), if_neg (by decide), mj_ck_t (by decide)]
  rfl
theorem rf9_6 (N : Nat) (m : mj_m) : f_X9_no N (-6) m = some (-6, rfm m 6) := by
  unfold f_X9_no
  rw [mj_ck_t (by decide)]
  rfl
theorem rb8_6 (N : Nat) (m : mj_m) : f_X8_refuseBelowTen N 6 m = some (-16, rfu m 6) := by
  unfold f_X8_refuseBelowTen
  rw [rf8_6]
  show some ((-6 : Int32) - 10, rfu m 6) = _
  rw [show (-6 : Int32) - 10 = -16 by decide]
theorem rb9_6 (N : Nat) (m : mj_m) : f_X9_noTen N (-6) m = some (-16, rfm m 6) := by
  unfold f_X9_noTen
  rw [mj_ck_t (by decide)]
  rfl
theorem rl8_6 (N : Nat) (m : mj_m) : f_X8_refuseFar N 6 m = some (-1000006, rfu m 6) := by
  unfold f_X8_refuseFar
  rw [rf8_6]
  show some ((-6 : Int32).toInt64 - 1000000, rfu m 6) = _
  rw [show (-6 : Int32).toInt64 - 1000000 = -1000006 by decide]
theorem rl9_6 (N : Nat) (m : mj_m) : f_X9_noLow N (-6) m = some (-1000006, rfm m 6) := by
  unfold f_X9_noLow
  rw [mj_ck_t (by decide)]
  rfl
theorem rf8_7 (N : Nat) (m : mj_m) : f_X8_refuse N 7 m = some (-7, rfu m 7) := by
  unfold f_X8_refuse f_X8_refuse_20
  rw [if_neg (by decide), if_neg (by decide), mj_ck_t (by decide)]
  rfl
theorem rf9_7 (N : Nat) (m : mj_m) : f_X9_no N (-7) m = some (-7, rfm m 7) := by
  unfold f_X9_no
  rw [mj_ck_t (by decide)]
  rfl
theorem rb8_7 (N : Nat) (m : mj_m) : f_X8_refuseBelowTen N 7 m = some (-17, rfu m 7) := by
  unfold f_X8_refuseBelowTen
  rw [rf8_7]
  show some ((-7 : Int32) - 10, rfu m 7) = _
  rw [show (-7 : Int32) - 10 = -17 by decide]
theorem rb9_7 (N : Nat) (m : mj_m) : f_X9_noTen N (-7) m = some (-17, rfm m 7) := by
  unfold f_X9_noTen
  rw [mj_ck_t (by decide)]
  rfl
theorem rl8_7 (N : Nat) (m : mj_m) : f_X8_refuseFar N 7 m = some (-1000007, rfu m 7) := by
  unfold f_X8_refuseFar
  rw [rf8_7]
  show some ((-7 : Int32).toInt64 - 1000000, rfu m 7) = _
  rw [show (-7 : Int32).toInt64 - 1000000 = -1000007 by decide]
theorem rl9_7 (N : Nat) (m : mj_m) : f_X9_noLow N (-7) m = some (-1000007, rfm m 7) := by
  unfold f_X9_noLow
  rw [mj_ck_t (by decide)]
  rfl
