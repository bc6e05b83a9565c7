/-! YEARS: a year on both sides, the call -/
theorem Rep_u4 {g : Nat → Nat → Int32} {t : aT} {u u' : Nat → Int32} (h : Rep g t u) (e : ∀ i, i < 4 → u i = u' i) : Rep g t u' := by
  obtain ⟨r1, r2, r3⟩ := h
  exact ⟨r1, fun i hi => (r2 i hi).trans (e i hi), r3⟩
def Py (m m' : mj_m) : Prop := (∀ a k, (a = 0 ∨ (18 ≤ a ∧ a < 36) ∨ (55 ≤ a ∧ a ≠ 78)) → m'.1 a k = m.1 a k) ∧ (∀ a k, (a < 42 ∨ 55 ≤ a) → m'.2 a k = m.2 a k)
theorem Py_r (m : mj_m) : Py m m := ⟨fun _ _ _ => rfl, fun _ _ _ => rfl⟩
theorem Py_t {m m' m'' : mj_m} (h : Py m m') (h' : Py m' m'') : Py m m'' := ⟨fun a k q => (h'.1 a k q).trans (h.1 a k q), fun a k q => (h'.2 a k q).trans (h.2 a k q)⟩
theorem passY8 {m : mj_m} {t : aT} {u : Nat → Int32} (hG : Good t) (g : Rep (cg m 1 8) t u) {s k a n' : Nat} {e : Nat → Int32} (hs : s < 8) (r : Ru m s k a e n') {N : Nat} (hN : 1100 ≤ N) : ∃ m', f_X4_passYear N (79 + 2 * s) m = some ((yrN t u (ordL t k a e n')).1, m') ∧ Rep (cg m' 1 8) (yrN t u (ordL t k a e n')).2.1 (yrN t u (ordL t k a e n')).2.2 ∧ Good (yrN t u (ordL t k a e n')).2.1 ∧ Py m m' ∧ (RB m → RB m') := by
  have gh := GH hG
  have gK := GK hG
  have oL := ordL_ok gh k a e n'
  have ll := ordL_len gh k a e n'
  obtain ⟨m1, a1, a2, a3⟩ := arrange8 hG g hs r (A := 49) (Or.inr rfl) hN
  generalize ordL t k a e n' = L at oL ll a1 a2
  have p2 : Pd m (mj_wI m1 48 9 (nI L.length)) := Pd_w a3 (by omega)
  obtain ⟨m3, b1, b2, b3⟩ := begin84 hG (Pd_c hG g p2) (L := L) (by rw [wI_e]) (fun j hj => by rw [wI_n (by omega)]; exact a2 j hj) N
  have p3 := Pd_t p2 (Sp_P b3)
  obtain ⟨m4, c1, c2, c3⟩ := spend8 hG oL.2 (by omega) (Pd_c hG g p3) b2 (SpO_0 hG u L) (N := N) (by omega)
  have p4 := Pd_t p3 (Sp_P c3)
  obtain ⟨ok1, -⟩ := yr_ok oL.2 (SpO_0 hG u L)
  unfold yrN
  generalize yr t L (s0Y t u) = y at c2 ok1
  obtain ⟨d1, d2, d3, d4, d5, d6⟩ := c2
  have hG1 : Good (tS t y.2.1) := Good_tS hG ok1.2.1
  have g4 := Pd_c hG g p4
  generalize h7 : mj_wI (mj_kI m4 50 5 0 0 10) 1 12 y.1 = m7
  have v7 : ∀ A K, ¬ (A = 1 ∧ K = 12) → A ≠ 5 → m7.1 A K = m4.1 A K := fun A K q1 q2 => by
    rw [← h7, wI_n (by omega), kI_n q2]
  have w7 : m7.2 = m4.2 := by rw [← h7]; rfl
  have g7 : Rep (cg m7 1 8) (tS t y.2.1) (fun i => if i = 0 then y.1 else u i) := by
    refine Rep_u4 (Rep_cX (t' := tS t y.2.1) hG g4 (fun A K q1 q2 q3 q4 => v7 A K (by omega) q3) (fun f _ _ f7 _ => tS_o t _ f7) (fun h hh => ⟨?_, ?_, ?_, ?_⟩)) (fun i hi => ?_)
    · rw [v7 _ _ (by omega) (by omega), tS_o t _ (by decide)]; exact x_day g4 hh
    · rw [v7 _ _ (by omega) (by omega), tS_o t _ (by decide)]; exact x_night g4 hh
    · rw [← h7, wI_n (by omega), kI_e (by omega), tS_7]; exact d6 h hh
    · rw [v7 _ _ (by omega) (by omega), tS_o t _ (by decide)]; exact x_prop g4 hh
    · rcases (by omega : i = 0 ∨ i = 1 ∨ i = 2 ∨ i = 3) with rfl | rfl | rfl | rfl
      · rw [if_pos rfl, ← h7, wI_e]
      · rw [if_neg (by decide), v7 _ _ (by omega) (by omega)]; exact x_year g4
      · rw [if_neg (by decide), v7 _ _ (by omega) (by omega)]; exact x_gone g4
      · rw [if_neg (by decide), v7 _ _ (by omega) (by omega)]; exact x_seed g4
  have gz := g_seed8 hG1 g7 (skM (tS t y.2.1) (u 3) (t 13 2)).2
  have g14 := Rep_cu (j := 2) (v := u 2 + (skM (tS t y.2.1) (u 3) (t 13 2)).1) hG1 gz (by decide)
  obtain ⟨m', x1, x2, x3, x4, x5⟩ := end8 hG1 g14 (N := N) (by omega)
  have hK : tS t y.2.1 13 2 = t 13 2 := rfl
  have loop : mj_lp N (f_X4_passYear_57 N) (0, 0, mj_wI m7 1 15 (u 3)) = some ((skM (tS t y.2.1) (u 3) (t 13 2)).1, m') := by
    refine lp_for (fun i => ((skM (tS t y.2.1) (u 3) i).1, nI i, mj_wI m7 1 15 (skM (tS t y.2.1) (u 3) i).2)) (c := t 13 2) (by omega) (fun i hi κ => ?_) (fun κ => ?_)
    · have gy := g_seed8 hG1 g7 (skM (tS t y.2.1) (u 3) i).2
      have gw := g_seed8 hG1 g7 (drS (skM (tS t y.2.1) (u 3) i).2)
      have tc : tS t y.2.1 11 i = t 11 i := rfl
      unfold f_X4_passYear_57 f_X4_passYear_101
      dsimp only
      rw [x_shakes gy, if_neg (show ¬ nI (tS t y.2.1 13 2) ≤ nI i from nI_ge (by rw [hK]; exact hi) (by omega)), draw8 N (by decide) (by decide), bind_some', mj_ck_t (bb_6 (by omega)), nI_clamp (by omega), x_chance gw hi]
      dsimp only
      by_cases q : nI (tS t y.2.1 11 i) ≤ drV 1000 (drS (skM (tS t y.2.1) (u 3) i).2)
      · rw [if_pos q, mw_eq, skM_n q, nI_succ]
      · rw [if_neg q, strike8 hG1 g7 hi _ (by omega), bind_some', mw_eq, mw_eq, skM_y q, nI_succ]
    · have gy := g_seed8 hG1 g7 (skM (tS t y.2.1) (u 3) (t 13 2)).2
      unfold f_X4_passYear_57
      dsimp only
      rw [x_shakes gy, if_pos (show nI (tS t y.2.1 13 2) ≤ nI (t 13 2) from nI_le (Nat.le_refl _) (by omega)), mw_eq, x_gone gy]
      rw [if_neg (by decide), if_neg (by decide)]
      rw [x1]; rfl
  have s7 := x_seed g7
  rw [wI_same (x := u 3) s7] at loop
  refine ⟨m', ?_, Rep_u4 x2 (fun i hi => ?_), Good_eY hG1, ⟨fun A K q => ?_, fun A K q => ?_⟩, fun z => x5 (RB_wX (RB_wX (RB_of z (fun A q => Or.inl ((v7 A 7 (by omega) (by omega)).trans (p4.1 A 7 (by omega))))) (by omega)) (by omega))⟩
  · unfold f_X4_passYear
    rw [a1, bind_some', mw_eq, b1, bind_some', c1, bind_some', mj_ck_t (by decide), mw_eq, show (0 : Int32).toNatClampNeg = 0 from rfl, show (10 : Int32).toNatClampNeg = 10 from rfl, kI_n (by omega), d3, mw_eq, h7]
    exact loop
  · rcases (by omega : i = 0 ∨ i = 1 ∨ i = 2 ∨ i = 3) with rfl | rfl | rfl | rfl <;> rfl
  · rw [x3 A K (by unfold okC; omega), wI_n (by omega), wI_n (by omega), v7 A K (by omega) (by omega)]; exact p4.1 A K (by omega)
  · rw [x4]; show m7.2 A K = _; rw [w7]; exact p4.2 A K q
theorem lives9 {m : mj_m} {t : aT} {u : Nat → Int32} (hG : Good t) (g : Rep (mg m) t u) {s k a n' : Nat} {e : Nat → Int32} (hs : s < 8) (r : Ru m s k a e n') {N : Nat} (hN : 1100 ≤ N) : ∃ m', f_X9_lives N (nI s) m = some ((yrN t u (ordL t k a e n')).1, m') ∧ Rep (mg m') (yrN t u (ordL t k a e n')).2.1 (yrN t u (ordL t k a e n')).2.2 ∧ Eqs (fun a k => okN a k ∨ okC a k) m m' := by
  have gh := GH hG
  have gK := GK hG
  have oL := ordL_ok gh k a e n'
  have ll := ordL_len gh k a e n'
  obtain ⟨m1, a1, a2, a3, a4⟩ := rowBy9 hG g hs r hN
  generalize ordL t k a e n' = L at oL ll a2 a3
  have g1 : Rep (mg m1) t u := RT_m hG g (fun a k q => a4.1 a k (Or.inr (Or.inr q)))
  obtain ⟨m4, c1, c2, c3⟩ := buildsW hG oL.2 (by omega) (m := mj_wI m1 95 47 0) (L := L) (s := s0Y t u) (fun i hi => by rw [wI_n (by omega)]; exact y_cost g1 hi) (by rw [wI_n (by omega)]; exact y_coin g1) ⟨by rw [wI_n (by omega)]; exact a2, by rw [wI_e]; rfl, by rw [wI_n (by omega)]; exact y_purse g1, fun j hj => by rw [wI_n (by omega)]; exact a3 j hj, fun i hi => by rw [wI_n (by omega)]; exact y_steps g1 hi⟩ (SpO_0 hG u L) (N := N) (by omega)
  obtain ⟨ok1, -⟩ := yr_ok oL.2 (SpO_0 hG u L)
  unfold yrN
  generalize yr t L (s0Y t u) = y at c2 ok1
  obtain ⟨d1, d2, d3, d4, d5⟩ := c2
  have hG1 : Good (tS t y.2.1) := Good_tS hG ok1.2.1
  have c3' : ∀ A K, ¬ (A = 95 ∧ (K = 6 ∨ K = 47 ∨ K = 48)) → ¬ (A = 108 ∧ K < 10) → m4.1 A K = m1.1 A K := fun A K q1 q2 => by
    rw [c3.1 A K q1 q2, wI_n (by omega)]
  have g7 : Rep (mg m4) (tS t y.2.1) (fun i => if i = 0 then y.1 else u i) := by
    refine Rep_u4 (Rep_mX (t' := tS t y.2.1) hG g1 (fun A K q1 q2 q3 q4 q5 q6 => c3' A K (by unfold okM at q1; omega) (by omega)) (fun f _ _ f7 _ => tS_o t _ f7) (fun h hh => ⟨?_, ?_, ?_, ?_⟩)) (fun i hi => ?_)
    · rw [c3' _ _ (by omega) (by omega), tS_o t _ (by decide)]; exact y_day g1 hh
    · rw [c3' _ _ (by omega) (by omega), tS_o t _ (by decide)]; exact y_night g1 hh
    · rw [tS_7]; exact d5 h hh
    · rw [c3' _ _ (by omega) (by omega), tS_o t _ (by decide)]; exact y_prop g1 hh
    · rcases (by omega : i = 0 ∨ i = 1 ∨ i = 2 ∨ i = 3) with rfl | rfl | rfl | rfl
      · rw [if_pos rfl]; exact d3
      · rw [if_neg (by decide), c3' _ _ (by omega) (by omega)]; exact y_year g1
      · rw [if_neg (by decide), c3' _ _ (by omega) (by omega)]; exact y_gone g1
      · rw [if_neg (by decide), c3' _ _ (by omega) (by omega)]; exact y_seed g1
  have gz := g_seed9 hG1 g7 (skM (tS t y.2.1) (u 3) (t 13 2)).2
  obtain ⟨m', x1, x2, x3, x4⟩ := end9 hG1 gz (skM (tS t y.2.1) (u 3) (t 13 2)).1 (N := N) (by omega)
  have hK : tS t y.2.1 13 2 = t 13 2 := rfl
  have loop : mj_lp N (f_X9_lives_18 N) (0, 0, mj_wI m4 95 9 (u 3)) = some ((skM (tS t y.2.1) (u 3) (t 13 2)).1, m') := by
    refine lp_for (fun i => ((skM (tS t y.2.1) (u 3) i).1, nI i, mj_wI m4 95 9 (skM (tS t y.2.1) (u 3) i).2)) (c := t 13 2) (by omega) (fun i hi κ => ?_) (fun κ => ?_)
    · have gy := g_seed9 hG1 g7 (skM (tS t y.2.1) (u 3) i).2
      have gw := g_seed9 hG1 g7 (drS (skM (tS t y.2.1) (u 3) i).2)
      have gv := g_seed9 hG1 g7 (drS (drS (skM (tS t y.2.1) (u 3) i).2))
      unfold f_X9_lives_18 f_X9_lives_207
      dsimp only
      rw [y_shakes gy, if_neg (show ¬ nI (tS t y.2.1 13 2) ≤ nI i from nI_ge (by rw [hK]; exact hi) (by omega)), draw9 N (by decide), bind_some', mj_ck_t (bb_99 (by omega)), nI_clamp (by omega), y_chance gw hi]
      dsimp only
      by_cases q : nI (tS t y.2.1 11 i) ≤ drV 1000 (drS (skM (tS t y.2.1) (u 3) i).2)
      · rw [if_neg (Int32.not_lt.mpr q), mw_eq, skM_n q, nI_succ]
      · rw [if_pos (Int32.not_le.mp q), draw9 N (by decide), bind_some', skM_y q]
        dsimp only
        rw [y_daypart gv]
        have st := strike9 hG1 g7 hi (drS (skM (tS t y.2.1) (u 3) i).2) (skM (tS t y.2.1) (u 3) i).1 (N := N) (by omega) κ
        by_cases w : nI (tS t y.2.1 13 5) ≤ drV 10 (drS (drS (skM (tS t y.2.1) (u 3) i).2))
        · rw [if_pos w]
          rw [show dyB (tS t y.2.1) (drS (skM (tS t y.2.1) (u 3) i).2) = false from decide_eq_false (fun z => z w)] at st
          exact st
        · rw [if_neg w]
          rw [show dyB (tS t y.2.1) (drS (skM (tS t y.2.1) (u 3) i).2) = true from decide_eq_true w] at st
          exact st
    · have gy := g_seed9 hG1 g7 (skM (tS t y.2.1) (u 3) (t 13 2)).2
      unfold f_X9_lives_18
      dsimp only
      rw [y_shakes gy, if_pos (show nI (tS t y.2.1 13 2) ≤ nI (t 13 2) from nI_le (Nat.le_refl _) (by omega))]
      exact x1
  have s7 := y_seed g7
  rw [wI_same (x := u 3) s7] at loop
  refine ⟨m', ?_, Rep_u4 x2 (fun i hi => ?_), fun A K q => ?_, fun A K q => ?_⟩
  · unfold f_X9_lives
    rw [a1, bind_some', mw_eq, c1, bind_some']
    exact loop
  · rcases (by omega : i = 0 ∨ i = 1 ∨ i = 2 ∨ i = 3) with rfl | rfl | rfl | rfl <;> rfl
  · have : ¬ okM A K := by unfold okN okC at q; unfold okM; omega
    rw [x3 A K this, wI_n (by unfold okM at this; omega), c3' A K (by unfold okN okC at q; omega) (by unfold okN okC at q; omega)]
    exact a4.1 A K (q.elim Or.inl (fun z => Or.inr (Or.inl z)))
  · rw [x4]; show m4.2 A K = _; rw [c3.2]; exact a4.2 A K q
def ysM (t : aT) (u : Nat → Int32) (k a : Nat) (e : Nat → Int32) (n' : Nat) : Nat → Int32 × aT × (Nat → Int32)
  | 0 => (0, t, u)
  | y + 1 => ((ysM t u k a e n' y).1 + (yrN (ysM t u k a e n' y).2.1 (ysM t u k a e n' y).2.2 (ordL (ysM t u k a e n' y).2.1 k a e n')).1, (yrN (ysM t u k a e n' y).2.1 (ysM t u k a e n' y).2.2 (ordL (ysM t u k a e n' y).2.1 k a e n')).2)
theorem years8 {m : mj_m} {t : aT} {u : Nat → Int32} (hG : Good t) (g : Rep (cg m 1 8) t u) {s k a n' : Nat} {e : Nat → Int32} (hs : s < 8) (r : Ru m s k a e n') {n : Nat} (hn : n ≤ 20) {N : Nat} (hN : 1100 ≤ N) : ∃ m', mj_lp N (f_X8_years_23 N (nI s) (nI n)) (0, 0, m) = some ((ysM t u k a e n' n).1, m') ∧ Rep (cg m' 1 8) (ysM t u k a e n' n).2.1 (ysM t u k a e n' n).2.2 ∧ Good (ysM t u k a e n' n).2.1 ∧ Py m m' ∧ (RB m → RB m') := by
  obtain ⟨z, ⟨-, z2, z3, z4, z5, z7⟩, z6⟩ := lp_cnt (B := f_X8_years_23 N (nI s) (nI n)) (E := fun z => some (z.1, z.2.2)) (c := n) (N := N) (s0 := ((0 : Int32), (0 : Int32), m)) (fun y z => z.2.1 = nI y ∧ z.1 = (ysM t u k a e n' y).1 ∧ Rep (cg z.2.2 1 8) (ysM t u k a e n' y).2.1 (ysM t u k a e n' y).2.2 ∧ Good (ysM t u k a e n' y).2.1 ∧ Py m z.2.2 ∧ (RB m → RB z.2.2)) (by omega)
    ⟨rfl, rfl, g, hG, Py_r m, id⟩
    (fun y z hy ⟨e1, e2, e3, e4, e5, e6⟩ => by
      obtain ⟨m', p1, p2, p3, p4, p5⟩ := passY8 e4 e3 hs (Ru_e hs r (fun b j q => e5.1 b j (by omega)) (fun b j q => e5.2 b j (by unfold okL at q; omega))) hN
      refine ⟨((ysM t u k a e n' (y + 1)).1, nI (y + 1), m'), ⟨rfl, rfl, p2, p3, Py_t e5 p4, fun x => p5 (e6 x)⟩, fun κ => ?_⟩
      unfold f_X8_years_23
      rw [e1, if_neg (nI_ge hy (by omega)), mj_ck_t (bb_35 hs), nI_clamp (by omega), p1, bind_some', mw_eq, mw_eq, e2, nI_succ]
      rfl)
    (fun z ⟨e1, _⟩ κ => by
      unfold f_X8_years_23
      rw [e1, if_pos (nI_le (by omega) (by omega))])
  exact ⟨z.2.2, by rw [z6, z2], z3, z4, z5, z7⟩
theorem years9 {m : mj_m} {t : aT} {u : Nat → Int32} (hG : Good t) (g : Rep (mg m) t u) {s k a n' : Nat} {e : Nat → Int32} (hs : s < 8) (r : Ru m s k a e n') (hy : ∀ y, Good (ysM t u k a e n' y).2.1) {n : Nat} (hn : n ≤ 20) {N : Nat} (hN : 1100 ≤ N) : ∃ m', mj_lp N (f_X9_years_38 N (nI s) (nI n)) (0, 0, m) = some ((ysM t u k a e n' n).1, m') ∧ Rep (mg m') (ysM t u k a e n' n).2.1 (ysM t u k a e n' n).2.2 ∧ Eqs (fun a k => okN a k ∨ okC a k) m m' := by
  obtain ⟨z, ⟨-, z2, z3, z5⟩, z6⟩ := lp_cnt (B := f_X9_years_38 N (nI s) (nI n)) (E := fun z => some (z.1, z.2.2)) (c := n) (N := N) (s0 := ((0 : Int32), (0 : Int32), m)) (fun y z => z.2.1 = nI y ∧ z.1 = (ysM t u k a e n' y).1 ∧ Rep (mg z.2.2) (ysM t u k a e n' y).2.1 (ysM t u k a e n' y).2.2 ∧ Eqs (fun a k => okN a k ∨ okC a k) m z.2.2) (by omega)
    ⟨rfl, rfl, g, Eqs_r _ m⟩
    (fun y z hy1 ⟨e1, e2, e3, e5⟩ => by
      obtain ⟨m', p1, p2, p4⟩ := lives9 (hy y) e3 hs (Ru_e hs r (fun b j q => e5.1 b j (Or.inl (by unfold okN; omega))) (fun b j q => e5.2 b j q)) hN
      refine ⟨((ysM t u k a e n' (y + 1)).1, nI (y + 1), m'), ⟨rfl, rfl, p2, Eqs_t e5 p4⟩, fun κ => ?_⟩
      unfold f_X9_years_38
      rw [e1, if_neg (nI_ge hy1 (by omega)), p1, bind_some', mw_eq, mw_eq, e2, nI_succ]
      rfl)
    (fun z ⟨e1, _⟩ κ => by
      unfold f_X9_years_38
      rw [e1, if_pos (nI_le (by omega) (by omega))])
  exact ⟨z.2.2, by rw [z6, z2], z3, z5⟩
theorem ys_good {t : aT} (hG : Good t) (u : Nat → Int32) (k a : Nat) (e : Nat → Int32) (n' : Nat) : ∀ y, Good (ysM t u k a e n' y).2.1 := by
  intro y
  induction y with
  | zero => exact hG
  | succ y ih =>
    show Good (eY (tS _ _))
    exact Good_eY (Good_tS ih (yr_ok (ordL_ok (GH ih) k a e n').2 (SpO_0 ih _ _)).1.2.1)
theorem ca_years {m : mj_m} (h : Rel m) {N : Nat} (hN : 1100 ≤ N) (v w : Int32) : Both (f_X8_years N v w) (f_X9_years N v w) m := by
  rcases lkP (RS_of h) N v w with ⟨r, r1, r2, a1, a2⟩ | ⟨a1, a2, a3⟩ | ⟨s, k, a, n, hs, rfl, n1, n2, rfl, b, a1, a2, a3⟩
  · refine ⟨-(nI r), rfu m r, _, ?_, ?_, Rel_rf h r⟩
    · unfold f_X8_years; rw [a1, bind_some', if_neg (rn0 r1 (by omega)).1, rf8_g r1 (by omega)]; rfl
    · unfold f_X9_years; rw [a2 (rfu m r) (rfu110 m r), bind_some', if_neg (rn0 r1 (by omega)).2, rf9_g r1 (by omega)]; rfl
  · refine ⟨-6, rfu m 6, _, ?_, ?_, Rel_rf h 6⟩
    · unfold f_X8_years; rw [a1, bind_some', if_neg (by decide), rf8_6]; rfl
    · unfold f_X9_years; rw [a2 (rfu m 6) (rfu110 m 6), bind_some', if_pos rfl, a3, bind_some', if_pos rfl, rf9_6]; rfl
  obtain ⟨t, u, h1⟩ := h.1
  have hG := h1.1
  obtain ⟨e, n', ru⟩ := Ru_of b
  obtain ⟨m1, x1, x2, x3, x4, x5⟩ := years8 hG h1.2.1 hs ru n2 hN
  have ru1 : Ru m1 s k a e n' := Ru_e hs ru (fun b j q => x4.1 b j (by omega)) (fun b j q => x4.2 b j (by unfold okL at q; omega))
  have g1 : Rep (mg m1) t u := RT_m hG h1.2.2 (fun a k q => x4.1 a k (by unfold okM at q; omega))
  obtain ⟨m2, y1, y2, y3⟩ := years9 hG g1 hs ru1 (ys_good hG u k a e n') n2 hN
  refine ⟨(ysM t u k a e n' n).1, m1, m2, ?_, ?_, Rel_N h ⟨x3, RT_c x3 x2 (fun a k q => y3.1 a k (Or.inr q)), y2⟩ ⟨fun a k q => ?_, fun a k q => ?_⟩ (fun z => RB_of (x5 z) (fun A q => Or.inl (y3.1 A 7 (by unfold okN okC; omega))))⟩
  · unfold f_X8_years; rw [a1, bind_some', if_pos rfl]; exact x1
  · unfold f_X9_years; rw [a2 m1 (fun i hi => x4.1 110 i (by omega)), bind_some', if_pos rfl, a3, bind_some', if_neg (by decide)]; exact y1
  · rw [y3.1 a k (Or.inl q)]; exact x4.1 a k (by unfold okN at q; omega)
  · rw [y3.2 a k q]; exact x4.2 a k (by unfold okL at q; omega)
