/-! THE CALLS, further: plan, steps, judge -/
theorem yrs8 (N : Nat) (w : Int32) (m : mj_m) : (f_X8_areYears N w m = some 0) ∨ ∃ n, 1 ≤ n ∧ n ≤ 20 ∧ w = nI n ∧ f_X8_areYears N w m = some 1 := by
  unfold f_X8_areYears f_X8_areYears_15
  by_cases h0 : w < 1
  · rw [if_pos h0]; exact Or.inl rfl
  · rw [if_neg h0]
    by_cases h1 : 20 < w
    · rw [if_pos h1]; exact Or.inl rfl
    · rw [if_neg h1]
      obtain ⟨n, n1, n2, e⟩ := mid (x := w) (a := 1) (b := 20) h0 h1 (by decide)
      exact Or.inr ⟨n, n1, n2, e, rfl⟩
theorem yrs9 (N : Nat) (w : Int32) (m m' : mj_m) : f_X9_isYears N w m' = f_X8_areYears N w m := rfl
theorem lkP {m : mj_m} (h : RS m) (N : Nat) (v w : Int32) : (∃ r, 1 ≤ r ∧ r ≤ 3 ∧ f_X8_lacksPlan N v w m = some (nI r) ∧ ∀ m' : mj_m, (∀ s, s < 8 → m'.1 110 s = m.1 110 s) → f_X9_wants N v 2 m' = some (-(nI r))) ∨
    (f_X8_lacksPlan N v w m = some 6 ∧ (∀ m' : mj_m, (∀ s, s < 8 → m'.1 110 s = m.1 110 s) → f_X9_wants N v 2 m' = some 0) ∧ ∀ m', f_X9_isYears N w m' = some 0) ∨
    ∃ s k a n, s < 8 ∧ v = nI s ∧ 1 ≤ n ∧ n ≤ 20 ∧ w = nI n ∧ RuleS m s k a ∧ f_X8_lacksPlan N v w m = some 0 ∧ (∀ m' : mj_m, (∀ s, s < 8 → m'.1 110 s = m.1 110 s) → f_X9_wants N v 2 m' = some 0) ∧ ∀ m', f_X9_isYears N w m' = some 1 := by
  rcases lk_rule h N v with ⟨r, r1, r2, a1, a2⟩ | ⟨s, k, a, hs, rfl, b, a1, a2⟩
  · refine Or.inl ⟨r, r1, r2, ?_, a2⟩
    unfold f_X8_lacksPlan; rw [a1, bind_some', if_neg (rn0 r1 (by omega)).1]
  · rcases yrs8 N w m with y | ⟨n, n1, n2, rfl, y⟩
    · refine Or.inr (Or.inl ⟨?_, a2, fun m' => y⟩)
      unfold f_X8_lacksPlan; rw [a1, bind_some', if_pos rfl, y]; rfl
    · refine Or.inr (Or.inr ⟨s, k, a, n, hs, rfl, n1, n2, rfl, b, ?_, a2, fun m' => y⟩)
      unfold f_X8_lacksPlan; rw [a1, bind_some', if_pos rfl, y]; rfl
theorem E110 {m m' : mj_m} (e : Eqs okA m m') : ∀ s, s < 8 → m'.1 110 s = m.1 110 s := fun s _ => e.1 110 s (by unfold okA okN; omega)
theorem ca_plan {m : mj_m} (h : Rel m) {N : Nat} (hN : 1100 ≤ N) (v w : Int32) : BothL (f_X8_plan N v w) (f_X9_plan N v w) m := by
  rcases lkP (RS_of h) N v w with ⟨r, r1, r2, a1, a2⟩ | ⟨a1, a2, a3⟩ | ⟨s, k, a, n, hs, rfl, n1, n2, rfl, b, a1, a2, a3⟩
  · refine ⟨(-(nI r)).toInt64, rfu m r, _, ?_, ?_, Rel_rf h r⟩
    · unfold f_X8_plan; rw [a1, bind_some', if_neg (rn0 r1 (by omega)).1, rf8_g r1 (by omega)]; rfl
    · unfold f_X9_plan; rw [a2 (rfu m r) (rfu110 m r), bind_some', if_neg (rn0 r1 (by omega)).2, rf9_g r1 (by omega)]; rfl
  · refine ⟨(-6 : Int32).toInt64, rfu m 6, _, ?_, ?_, Rel_rf h 6⟩
    · unfold f_X8_plan; rw [a1, bind_some', if_neg (by decide), rf8_6]; rfl
    · unfold f_X9_plan; rw [a2 (rfu m 6) (rfu110 m 6), bind_some', if_pos rfl, a3, bind_some', if_pos rfl, rf9_6]; rfl
  obtain ⟨t, u, h1⟩ := h.1
  have hG := h1.1
  have gh := GH hG
  obtain ⟨e, n', ru⟩ := Ru_of b
  obtain ⟨m1, x1, x2⟩ := lossRule8 hG h1.2.1 hs ru n2 hN
  have e1 := Pd_E x2
  have r1 : RT m1 t u := RT_S h1 e1
  obtain ⟨m2, y1, y2, y3, y4⟩ := rowBy9 hG r1.2.2 hs (Ru_A hs ru e1) hN
  have r2 : RT m2 t u := RT_S r1 y4
  have ll := ordL_len gh k a e n'
  obtain ⟨m3, z1, z2, z3⟩ := planned9 hG (ordL_ok gh k a e n').2 (by omega) r2.2.2 y2 y3 n2 hN
  refine ⟨lsY t (ordL t k a e n') (s0Y t u) n, m1, m3, ?_, ?_, Rel_S h (Eqs_t e1 (Eqs_t y4 (Fp_E z3)))⟩
  · unfold f_X8_plan; rw [a1, bind_some', if_pos rfl, mj_ck_t (bb_35 hs), nI_clamp (by omega), x1]; rfl
  · unfold f_X9_plan; rw [a2 m1 (E110 e1), bind_some', if_pos rfl, a3, bind_some', if_neg (by decide), y1, bind_some', z1]; rfl
theorem ca_steps {m : mj_m} (h : Rel m) {N : Nat} (hN : 1100 ≤ N) (v w : Int32) : Both (f_X8_steps N v w) (f_X9_steps N v w) m := by
  rcases lkP (RS_of h) N v w with ⟨r, r1, r2, a1, a2⟩ | ⟨a1, a2, a3⟩ | ⟨s, k, a, n, hs, rfl, n1, n2, rfl, b, a1, a2, a3⟩
  · refine ⟨-(nI r), rfu m r, _, ?_, ?_, Rel_rf h r⟩
    · unfold f_X8_steps; rw [a1, bind_some', if_neg (rn0 r1 (by omega)).1, rf8_g r1 (by omega)]; rfl
    · unfold f_X9_steps; rw [a2 (rfu m r) (rfu110 m r), bind_some', if_neg (rn0 r1 (by omega)).2, rf9_g r1 (by omega)]; rfl
  · refine ⟨-6, rfu m 6, _, ?_, ?_, Rel_rf h 6⟩
    · unfold f_X8_steps; rw [a1, bind_some', if_neg (by decide), rf8_6]; rfl
    · unfold f_X9_steps; rw [a2 (rfu m 6) (rfu110 m 6), bind_some', if_pos rfl, a3, bind_some', if_pos rfl, rf9_6]; rfl
  obtain ⟨t, u, h1⟩ := h.1
  have hG := h1.1
  have gh := GH hG
  obtain ⟨e, n', ru⟩ := Ru_of b
  obtain ⟨m1, x1, x2⟩ := stepsRule8 hG h1.2.1 hs ru n2 hN
  have e1 := Pd_E x2
  have r1 : RT m1 t u := RT_S h1 e1
  obtain ⟨m2, y1, y2, y3, y4⟩ := rowBy9 hG r1.2.2 hs (Ru_A hs ru e1) hN
  have r2 : RT m2 t u := RT_S r1 y4
  have ll := ordL_len gh k a e n'
  obtain ⟨m3, z1, z2, z3⟩ := planned9 hG (ordL_ok gh k a e n').2 (by omega) r2.2.2 y2 y3 n2 hN
  refine ⟨nI (stY t (ordL t k a e n') (s0Y t u) n).2.2.2, m1, m3, ?_, ?_, Rel_S h (Eqs_t e1 (Eqs_t y4 (Fp_E z3)))⟩
  · unfold f_X8_steps; rw [a1, bind_some', if_pos rfl, mj_ck_t (bb_35 hs), nI_clamp (by omega), x1]; rfl
  · unfold f_X9_steps; rw [a2 m1 (E110 e1), bind_some', if_pos rfl, a3, bind_some', if_neg (by decide), y1, bind_some', z1, bind_some', z2]
/-! judge -/
def jdL (e : Nat → Int32) : Nat → List Nat
  | 0 => []
  | i + 1 => jdL e i ++ [(e i).toNatClampNeg]
theorem jdL_len (e : Nat → Int32) : ∀ i, (jdL e i).length = i := by
  intro i
  induction i with
  | zero => rfl
  | succ i ih => show (jdL e i ++ [(e i).toNatClampNeg]).length = i + 1; rw [List.length_append, List.length_singleton, ih]
def jOk (t : aT) (e : Nat → Int32) (i : Nat) : Prop := ∃ x, x < t 13 1 ∧ e i = nI x ∧ x ∉ jdL e i
theorem jd_s {t : aT} (hb : t 13 1 ≤ 10) {e : Nat → Int32} {i x : Nat} (hx : x < t 13 1) (he : e i = nI x) : jdL e (i + 1) = jdL e i ++ [x] := by
  show jdL e i ++ [(e i).toNatClampNeg] = _
  rw [he, nI_clamp (by omega)]
theorem jd_ok {t : aT} (hb : t 13 1 ≤ 10) {e : Nat → Int32} : ∀ c, (∀ i, i < c → jOk t e i) → (jdL e c).Nodup ∧ ∀ x, x ∈ jdL e c → x < t 13 1 := by
  intro c
  induction c with
  | zero => intro _; exact ⟨List.nodup_nil, fun x hx => by cases hx⟩
  | succ c ih =>
    intro h
    obtain ⟨i1, i2⟩ := ih (fun i hi => h i (by omega))
    obtain ⟨x, x1, x2, x3⟩ := h c (by omega)
    rw [jd_s hb x1 x2]
    refine ⟨nd_snoc i1 x3, fun y hy => ?_⟩
    rcases List.mem_append.mp hy with z | z
    · exact i2 y z
    · rw [List.mem_singleton] at z; rw [z]; exact x1
theorem first_bad (P : Nat → Prop) : ∀ n, ∃ c, c ≤ n ∧ (∀ i, i < c → P i) ∧ (c = n ∨ ¬ P c) := by
  intro n
  induction n with
  | zero => exact ⟨0, Nat.le_refl _, fun i hi => absurd hi (Nat.not_lt_zero i), Or.inl rfl⟩
  | succ n ih =>
    obtain ⟨c, c1, c2, c3⟩ := ih
    rcases c3 with c3 | c3
    · by_cases q : P n
      · exact ⟨n + 1, Nat.le_refl _, fun i hi => by
          by_cases y : i = n
          · rw [y]; exact q
          · exact c2 i (by omega), Or.inl rfl⟩
      · exact ⟨n, by omega, fun i hi => c2 i (by omega), Or.inr q⟩
    · exact ⟨c, by omega, c2, Or.inr c3⟩
theorem xisH_n {m : mj_m} {t : aT} {u : Nat → Int32} (hG : Good t) (h : Rep (cg m 1 8) t u) (N : Nat) (v : Int32) : (f_X7_isHouse N v m = some 0 ∧ ∀ k, k < t 13 1 → v ≠ nI k) ∨ ∃ k, k < t 13 1 ∧ v = nI k ∧ f_X7_isHouse N v m = some 1 := by
  have hc := x_houses h
  have hb := GH hG
  unfold f_X7_isHouse f_X7_isHouse_22
  by_cases h0 : v < 0
  · rw [if_pos h0]; exact Or.inl ⟨rfl, bndn hc (by omega) (Or.inl h0)⟩
  · rw [if_neg h0]
    by_cases h1 : m.1 1 7 ≤ v
    · rw [if_pos h1]; exact Or.inl ⟨rfl, bndn hc (by omega) (Or.inr h1)⟩
    · rw [if_neg h1]
      obtain ⟨k, hk, rfl⟩ := bnd hc (by omega) h0 h1
      rw [if_neg (show ¬ 10 ≤ nI k from (nI_ge (by omega) (by decide) : ¬ nI 10 ≤ nI k))]
      exact Or.inr ⟨k, hk, rfl, rfl⟩
theorem take8 {m : mj_m} {t : aT} {u : Nat → Int32} (hG : Good t) (g : Rep (cg m 1 8) t u) {s n : Nat} (hs : s < 8) (hn : n ≤ 120) (hz : m.1 (79 + 2 * s) 2 = nI n) {e : Nat → Int32} (he : ∀ i, i < n → (m.2 (80 + 2 * s) i).toInt32 = e i) {c : Nat} (c1 : c ≤ n) (c2 : ∀ i, i < c → jOk t e i) (c3 : c = n ∨ ¬ jOk t e c) {N : Nat} (hN : 20 ≤ N) : ∃ m', f_X4_take N (79 + 2 * s) m = some (if c = n then 1 else 0, m') ∧ Pd m m' ∧ (c = n → m'.1 48 9 = nI (jdL e n).length ∧ Rw m' 49 (jdL e n)) := by
  have gh := GH hG
  obtain ⟨jn, jx⟩ := jd_ok gh c c2
  have cl : c ≤ 10 := by have := nd_len _ _ jn jx; rw [jdL_len] at this; omega
  unfold f_X4_take
  rw [mw_eq]
  obtain ⟨z, ⟨e1, ⟨b, e2, e3⟩, e4, e5, e6⟩, e7⟩ := lp_cnt (B := f_X4_take_9 N (79 + 2 * s)) (E := fun z => some (if c = n then 1 else 0, z.2.2)) (c := c) (N := N) (s0 := (0, 0, mj_wI m 48 9 0)) (fun i z => z.2.1 = nI i ∧ (∃ b, z.1 = nI b ∧ bitsL b (jdL e i)) ∧ z.2.2.1 48 9 = nI i ∧ Rw z.2.2 49 (jdL e i) ∧ Pd m z.2.2) (by omega)
    ⟨rfl, ⟨0, rfl, bits_0⟩, wI_e, fun j hj => absurd hj (Nat.not_lt_zero j), Pd_w (Pd_r m) (by omega)⟩
    (fun i z hi ⟨e1, ⟨b, e2, e3⟩, e4, e5, e6⟩ => by
      have gs := Pd_c hG g e6
      obtain ⟨x, x1, x2, x3⟩ := c2 i hi
      have ia : f_X6_asInt N (79 + 2 * s) (nI i) z.2.2 = some (nI x) := by
        rw [as8 hs (by rw [e6.1 _ _ (by omega)]; exact hz) hn (show i < n by omega), e6.2 _ _ (by omega), he i (by omega), x2]
      refine ⟨(nI (b ||| 2 ^ x), nI (i + 1), mj_wI (mj_wI z.2.2 49 i (nI x)) 48 9 (nI (i + 1))), ⟨rfl, ⟨_, rfl, by rw [jd_s gh x1 x2]; exact bits_s e3 (by omega)⟩, wI_e, ?_, Pd_w (Pd_w e6 (by omega)) (by omega)⟩, fun k => ?_⟩
      · rw [jd_s gh x1 x2]
        intro j hj
        rw [wI_n (by omega)]
        have := Rw_snoc x e5 j hj
        rw [jdL_len] at this
        exact this
      · unfold f_X4_take_9
        rw [mj_ck_t (o6 hs), e6.1 _ _ (by omega), hz, e1, if_neg (nI_ge (show i < n by omega) (by omega)), ia, bind_some', xisH hG gs N x1, bind_some', if_neg (by decide), e2, if_pos ((n_bit0 b (by omega)).mpr (by rw [e3.2 x (by omega)]; exact decide_eq_false x3)), n_shl x (by omega), n_or, mw_eq, e4, mj_ck_t (bb_49 (by omega)), nI_clamp (show i < 2 ^ 31 by omega), mw_eq, wI_n (by omega), e4, mw_eq, mw_eq, nI_succ])
    (fun z ⟨e1, ⟨b, e2, e3⟩, e4, e5, e6⟩ k => by
      have gs := Pd_c hG g e6
      unfold f_X4_take_9
      rw [mj_ck_t (o6 hs), e6.1 _ _ (by omega), hz, e1]
      rcases Nat.lt_or_ge c n with q | q
      · have nok := c3.resolve_left (by omega)
        have ia : f_X6_asInt N (79 + 2 * s) (nI c) z.2.2 = some (e c) := by
          rw [as8 hs (by rw [e6.1 _ _ (by omega)]; exact hz) hn q, e6.2 _ _ (by omega), he c q]
        rw [if_neg (nI_ge q (by omega)), ia, bind_some', if_neg (show ¬ c = n by omega)]
        rcases xisH_n hG gs N (e c) with ⟨y1, y2⟩ | ⟨x, y1, y2, y3⟩
        · rw [y1, bind_some', if_pos rfl]
        · have xin : x ∈ jdL e c := Decidable.byContradiction (fun w => nok ⟨x, y1, y2, w⟩)
          rw [y3, bind_some', if_neg (by decide), y2, e2, if_neg (fun w => by
            have := (n_bit0 b (by omega)).mp w
            rw [e3.2 x (by omega), decide_eq_true xin] at this; cases this)]
      · have : c = n := by omega
        rw [if_pos (nI_le (by omega) (by omega)), if_pos this])
  refine ⟨z.2.2, e7, e6, fun q => ?_⟩
  rw [← q, jdL_len]
  exact ⟨e4, e5⟩
theorem jrow9 {m : mj_m} {t : aT} {u : Nat → Int32} (hG : Good t) (g : Rep (mg m) t u) {s n : Nat} (hs : s < 8) (hn : n ≤ 120) (hz : m.1 112 s = nI n) {e : Nat → Int32} (he : ∀ i, i < n → (m.2 115 (120 * s + i)).toInt32 = e i) {c : Nat} (c1 : c ≤ n) (c2 : ∀ i, i < c → jOk t e i) (c3 : c = n ∨ ¬ jOk t e c) (w : Int32) {N : Nat} (hN : 20 ≤ N) : ∃ m', mj_lp N (f_X9_judge_40 N (nI s) w) (0, 0, m) = (if c = n then mj_mw (mj_wI m' 95 46 (nI n)) (fun m3 => (f_X9_planned N w m3).bind (fun r4 => some (r4.1, r4.2))) else f_X9_judge_80 N m') ∧ Eqs okA m m' ∧ (c = n → Rw m' 124 (jdL e n)) := by
  have gh := GH hG
  have n124 : ∀ j, ¬ okA 124 j := fun j => by unfold okA okN okC okM; omega
  obtain ⟨jn, jx⟩ := jd_ok gh c c2
  have cl : c ≤ 10 := by have := nd_len _ _ jn jx; rw [jdL_len] at this; omega
  obtain ⟨z, ⟨e1, ⟨b, e2, e3⟩, e5, e6⟩, e7⟩ := lp_cnt (B := f_X9_judge_40 N (nI s) w) (E := fun z => (if c = n then mj_mw (mj_wI z.2.2 95 46 (nI n)) (fun m3 => (f_X9_planned N w m3).bind (fun r4 => some (r4.1, r4.2))) else f_X9_judge_80 N z.2.2)) (c := c) (N := N) (s0 := (0, 0, m)) (fun i z => z.2.1 = nI i ∧ (∃ b, z.1 = nI b ∧ bitsL b (jdL e i)) ∧ Rw z.2.2 124 (jdL e i) ∧ Eqs okA m z.2.2) (by omega)
    ⟨rfl, ⟨0, rfl, bits_0⟩, fun j hj => absurd hj (Nat.not_lt_zero j), Eqs_r _ _⟩
    (fun i z hi ⟨e1, ⟨b, e2, e3⟩, e5, e6⟩ => by
      have gs := RT_m hG g (fun a j q => e6.1 a j (Or.inr (Or.inr q)))
      obtain ⟨x, x1, x2, x3⟩ := c2 i hi
      have ia : f_X9_intAt N (nI s) (nI i) z.2.2 = some (nI x) := by
        rw [int9 hs (by omega), e6.2 115 _ (by unfold okL; omega), he i (by omega), x2]
      refine ⟨(nI (b ||| 2 ^ x), nI (i + 1), mj_wI z.2.2 124 i (nI x)), ⟨rfl, ⟨_, rfl, by rw [jd_s gh x1 x2]; exact bits_s e3 (by omega)⟩, ?_, Eqs_w e6 (n124 _)⟩, fun k => ?_⟩
      · rw [jd_s gh x1 x2]
        intro j hj
        have := Rw_snoc x e5 j hj
        rw [jdL_len] at this
        exact this
      · unfold f_X9_judge_40
        rw [mj_ck_t (bb_112 hs), nI_clamp (show s < 2 ^ 31 by omega), e6.1 112 s (by unfold okA okN; omega), hz, e1, if_neg (nI_ge (show i < n by omega) (by omega)), ia, bind_some', yisH hG gs N x1, bind_some', if_neg (by decide), e2, if_neg (fun q => by
          have := (n_bit1 b (by omega)).mp q
          rw [e3.2 x (by omega), decide_eq_false x3] at this; cases this), n_shl x (by omega), n_or, mw_eq, mj_ck_t (bb_124 (by omega)), nI_clamp (show i < 2 ^ 31 by omega), mw_eq, mw_eq, nI_succ])
    (fun z ⟨e1, ⟨b, e2, e3⟩, e5, e6⟩ k => by
      have gs := RT_m hG g (fun a j q => e6.1 a j (Or.inr (Or.inr q)))
      unfold f_X9_judge_40
      rw [mj_ck_t (bb_112 hs), nI_clamp (show s < 2 ^ 31 by omega), e6.1 112 s (by unfold okA okN; omega), hz, e1]
      rcases Nat.lt_or_ge c n with q | q
      · have nok := c3.resolve_left (by omega)
        have ia : f_X9_intAt N (nI s) (nI c) z.2.2 = some (e c) := by
          rw [int9 hs (by omega), e6.2 115 _ (by unfold okL; omega), he c q]
        rw [if_neg (nI_ge q (by omega)), ia, bind_some', if_neg (show ¬ c = n by omega)]
        rcases yisH_n hG gs N (e c) with ⟨y1, y2⟩ | ⟨x, y1, y2, y3⟩
        · rw [y1, bind_some', if_pos rfl]
        · have xin : x ∈ jdL e c := Decidable.byContradiction (fun w => nok ⟨x, y1, y2, w⟩)
          rw [y3, bind_some', if_neg (by decide), y2, e2, if_pos ((n_bit1 b (by omega)).mpr (by rw [e3.2 x (by omega)]; exact decide_eq_true xin))]
      · have : c = n := by omega
        rw [if_pos (nI_le (by omega) (by omega)), if_pos this])
  refine ⟨z.2.2, e7, e6, fun q => ?_⟩
  rw [← q]
  exact e5
theorem ca_judge {m : mj_m} (h : Rel m) {N : Nat} (hN : 1100 ≤ N) (v w : Int32) : BothL (f_X8_judge N v w) (f_X9_judge N v w) m := by
  rcases lk_row (RS_of h) N v with ⟨r, r1, r2, a1, a2⟩ | ⟨s, o, n, hs, rfl, b, a1, a2⟩
  · refine ⟨(-(nI r)).toInt64, rfu m r, _, ?_, ?_, Rel_rf h r⟩
    · unfold f_X8_judge; rw [a1, bind_some', if_neg (rn0 r1 (by omega)).1, rf8_g r1 (by omega)]; rfl
    · unfold f_X9_judge; rw [a2 (rfu m r) (rfu110 m r), bind_some', if_neg (rn0 r1 (by omega)).2, rf9_g r1 (by omega)]; rfl
  rcases yrs8 N w m with y | ⟨n0, n1, n2, rfl, y⟩
  · refine ⟨(-6 : Int32).toInt64, rfu m 6, _, ?_, ?_, Rel_rf h 6⟩
    · unfold f_X8_judge f_X8_judge_40; rw [a1, bind_some', if_pos rfl, y, bind_some', if_pos rfl, rf8_6]; rfl
    · unfold f_X9_judge; rw [a2 (rfu m 6) (rfu110 m 6), bind_some', if_pos rfl, yrs9 N w m, y, bind_some', if_pos rfl, rf9_6]; rfl
  obtain ⟨t, u, h1⟩ := h.1
  have hG := h1.1
  have gh := GH hG
  obtain ⟨o1, o2, o3, o4, o5, o6', o7, o8⟩ := b
  obtain ⟨c, c1, c2, c3⟩ := first_bad (jOk t (fun i => (m.2 (80 + 2 * s) i).toInt32)) n
  obtain ⟨m1, x1, x2, x3⟩ := take8 hG h1.2.1 hs o2 o7 (fun i hi => rfl) c1 c2 c3 (N := N) (by omega)
  have e1 := Pd_E x2
  have f8 : f_X8_judge N (nI s) (nI n0) m = if (if c = n then (1 : Int32) else 0) = 0 then f_X8_judge_40 N m1 else ((f_X4_lossOfRow N (nI n0) m1).bind (fun r8 => some (r8.1, r8.2))) := by
    unfold f_X8_judge
    rw [a1, bind_some', if_pos rfl, y, bind_some', if_neg (by decide), mj_ck_t (bb_35 hs), nI_clamp (by omega), x1, bind_some']
  have f9 : ∀ m' : mj_m, (∀ s, s < 8 → m'.1 110 s = m.1 110 s) → f_X9_judge N (nI s) (nI n0) m' = mj_lp N (f_X9_judge_40 N (nI s) (nI n0)) (0, 0, m') := fun m' q => by
    unfold f_X9_judge
    rw [a2 m' q, bind_some', if_pos rfl, yrs9 N (nI n0) m, y, bind_some', if_neg (by decide)]
  have j9 : ∀ m' : mj_m, Eqs okA m m' → ∃ m2, mj_lp N (f_X9_judge_40 N (nI s) (nI n0)) (0, 0, m') = (if c = n then mj_mw (mj_wI m2 95 46 (nI n)) (fun m3 => (f_X9_planned N (nI n0) m3).bind (fun r4 => some (r4.1, r4.2))) else f_X9_judge_80 N m2) ∧ Eqs okA m' m2 ∧ (c = n → Rw m2 124 (jdL (fun i => (m.2 (80 + 2 * s) i).toInt32) n)) := fun m' q => by
    have r' : RT m' t u := RT_S h1 q
    exact jrow9 hG r'.2.2 hs o2 (by rw [q.1 112 s (by unfold okA okN; omega)]; exact o5) (e := fun i => (m.2 (80 + 2 * s) i).toInt32) (fun i hi => by rw [q.2 115 _ (by unfold okL; omega), ← o8 i hi]) c1 c2 c3 (nI n0) (by omega)
  by_cases q : c = n
  · obtain ⟨p1, p2⟩ := x3 q
    obtain ⟨jn, jx⟩ := jd_ok gh c c2
    rw [q] at jn jx
    have jl := nd_len _ _ jn jx
    obtain ⟨m2, y1, y2⟩ := loss8 hG jx (by omega) (Pd_c hG h1.2.1 x2) p1 p2 n2 hN
    have e2 := Eqs_t e1 (Pd_E y2)
    obtain ⟨m3, z1, z2, z3⟩ := j9 m2 e2
    have n46 : ¬ okA 95 46 := by unfold okA okN okC okM; omega
    have e3 : Eqs okA m (mj_wI m3 95 46 (nI n)) := Eqs_w (Eqs_t e2 z2) n46
    obtain ⟨m4, w1, w2, w3⟩ := planned9 hG jx (by omega) (RT_S h1 e3).2.2 (by rw [wI_e, jdL_len]) (fun j hj => by rw [wI_n (by omega)]; exact z3 q j hj) n2 hN
    refine ⟨lsY t (jdL (fun i => (m.2 (80 + 2 * s) i).toInt32) n) (s0Y t u) n0, m2, m4, ?_, ?_, Rel_S h (Eqs_t e3 (Fp_E w3))⟩
    · rw [f8, if_pos q, if_neg (by decide), y1]; rfl
    · rw [f9 m2 (E110 e2), z1, if_pos q, mw_eq, w1]; rfl
  · have eq : Eqs okA m (rfu m1 6) ∨ True := Or.inr trivial
    have r1 : RT (rfu m1 6) t u := RT_rfu (RT_S h1 e1) 6
    have q6 : ∀ a k, okA a k → ¬ (a = 77) → (rfu m1 6).1 a k = m.1 a k := fun a k hk hz => by
      rw [show (rfu m1 6).1 a k = m1.1 a k from wI_n (by omega)]; exact e1.1 a k hk
    obtain ⟨m2, z1, z2, z3⟩ := jrow9 hG r1.2.2 hs o2 (by rw [q6 112 s (by unfold okA okN; omega) (by omega)]; exact o5) (e := fun i => (m.2 (80 + 2 * s) i).toInt32) (fun i hi => by
      show (m1.2 115 (120 * s + i)).toInt32 = _
      rw [e1.2 115 _ (by unfold okL; omega), ← o8 i hi]) c1 c2 c3 (nI n0) (N := N) (by omega)
    refine ⟨(-6 : Int32).toInt64, rfu m1 6, rfm m2 6, ?_, ?_, Rel_rf2 h e1 6 z2⟩
    · rw [f8, if_neg q, if_pos rfl]
      unfold f_X8_judge_40
      rw [rf8_6]; rfl
    · rw [f9 (rfu m1 6) (fun i hi => q6 110 i (by unfold okA okN; omega) (by omega)), z1, if_neg q]
      unfold f_X9_judge_80
      rw [rf9_6]; rfl
