/-! THE CALLS, further: houses -/
theorem eS (i j : Nat) (c : Int32) (h : c = nI j) : nI i + c = nI (i + j) := by rw [h, nI_add]
theorem add8 {m : mj_m} {t : aT} {u : Nat → Int32} {s n i : Nat} (hs : s < 8) (hz : m.1 (79 + 2 * s) 2 = nI n) (hn : n ≤ 120) (hi : i + 5 ≤ n) (e : Nat → Int32) (he : ∀ k, k < n → (m.2 (80 + 2 * s) k).toInt32 = e k) (hG : Good t) (g : Rep (cg m 1 8) t u) (N : Nat) :
    f_X8_addHouseOf N (79 + 2 * s) (nI i) m = if okH t (e i) (e (i + 1)) (e (i + 2)) (e (i + 3)) (e (i + 4)) = true then some (1, h8w m (t 13 1) (e i) (e (i + 1)) (e (i + 2)) (e (i + 3)) (e (i + 4))) else some (0, m) := by
  have q0 := as8 (j := i) hs hz hn (by omega) N
  have q1 := as8 (j := i + 1) hs hz hn (by omega) N
  have q2 := as8 (j := i + 2) hs hz hn (by omega) N
  have q3 := as8 (j := i + 3) hs hz hn (by omega) N
  have q4 := as8 (j := i + 4) hs hz hn (by omega) N
  rw [he _ (by omega)] at q0 q1 q2 q3 q4
  unfold f_X8_addHouseOf
  rw [q0, bind_some', mj_ck_t (o6 hs), eS i 1 1 rfl, q1, bind_some', eS i 2 2 rfl, q2, bind_some', eS i 3 3 rfl, q3, bind_some', eS i 4 4 rfl, q4, bind_some']
  generalize e i = x0
  generalize e (i + 1) = x1
  generalize e (i + 2) = x2
  generalize e (i + 3) = x3
  generalize e (i + 4) = x4
  rcases Nat.lt_or_ge (t 13 1) 10 with z | z
  · rcases okH_t (c := x0) (a := x1) (b := x2) (d := x3) (e := x4) (N := N) (m := m) (m' := m) z with ⟨r, r1, r2⟩ | ⟨r, r1 | ⟨r1, r2⟩⟩
    · rw [r, if_pos rfl, r1, bind_some', if_neg (by decide), r2, bind_some', if_neg (by decide), a8_house (x_houses g) z, bind_some', if_neg (nI_neg _ (by omega))]
    · rw [r, if_neg (by decide), r1]; rfl
    · rw [r, if_neg (by decide), r1, bind_some', if_neg (by decide), r2]; rfl
  · have r : okH t x0 x1 x2 x3 x4 = false := by unfold okH; rw [decide_eq_false (by omega)]; rfl
    have y : f_X7_addHouse N x0 x1 x2 x3 x4 m = some (-1, m) := by
      unfold f_X7_addHouse
      rw [x_houses g, if_neg (show ¬ nI (t 13 1) < 10 from (nI_nlt (a := t 13 1) (b := 10) z (by have := GH hG; omega) : ¬ nI (t 13 1) < nI 10))]
    rw [r, if_neg (by decide), y]
    rcases isC N x0 m with r1 | ⟨_, _, _, r1⟩
    · rw [r1]; rfl
    · rw [r1, bind_some', if_neg (by decide)]
      rcases isCB N x1 x2 x3 x4 m with r2 | ⟨_, _, _, _, _, _, _, _, _, _, _, _, _, r2⟩
      · rw [r2]; rfl
      · rw [r2]; rfl
def okNM (a k : Nat) : Prop := okN a k ∨ okM a k
def okNC (a k : Nat) : Prop := okN a k ∨ okC a k
theorem h8w_e {m : mj_m} {n : Nat} {c w d e k : Int32} (hn : n < 10) : Eqs okNM m (h8w m n c w d e k) :=
  ⟨fun A K q => h8w_n (by unfold okNM okN okM at q; omega) hn, fun A K q => rfl⟩
theorem h9w_e {m : mj_m} {n : Nat} {c w d e k : Int32} (hn : n < 10) : Eqs okNC m (h9w m n c w d e k) := by
  refine ⟨fun A K q => ?_, fun A K q => rfl⟩
  unfold h9w
  unfold okNC okN okC at q
  rw [wI_n, wI_n, wI_n, wI_n, wI_n, wI_n, wI_n, wI_n, wI_n, wI_n] <;> omega
theorem loop8 {s n T : Nat} (hs : s < 8) (hn : n ≤ 120) (hT : T ≤ n) (e : Nat → Int32) (N0 : Nat) (v2 v3 : Int32) (hv : v2 + v3 = nI T) (u : Nat → Int32) : ∀ (q N c i : Nat) (m : mj_m) (t : aT), q < N → i + 5 * q = T → m.1 (79 + 2 * s) 2 = nI n → (∀ k, k < n → (m.2 (80 + 2 * s) k).toInt32 = e k) → Good t → Rep (cg m 1 8) t u →
    ∃ m', mj_lp N (f_X8_houses_72 N0 v2 v3 (79 + 2 * s)) (nI c, nI i, m) = some (nI (c + (growH e q i t).1), m') ∧ Good (growH e q i t).2 ∧ Rep (cg m' 1 8) (growH e q i t).2 u ∧ Eqs okNM m m' ∧ (RB m → RB m') := by
  intro q
  induction q with
  | zero =>
    intro N c i m t hN hq hz he hG g
    obtain ⟨N, rfl⟩ : ∃ k, N = k + 1 := ⟨N - 1, by omega⟩
    refine ⟨m, ?_, hG, g, Eqs_r _ _, id⟩
    show (if v2 + v3 ≤ nI i then _ else _) = _
    rw [hv, if_pos (nI_le (by omega) (by omega))]; rfl
  | succ q ih =>
    intro N c i m t hN hq hz he hG g
    obtain ⟨N, rfl⟩ : ∃ k, N = k + 1 := ⟨N - 1, by omega⟩
    show ∃ m', (if v2 + v3 ≤ nI i then _ else (f_X8_addHouseOf N0 (79 + 2 * s) (nI i) m).bind _) = _ ∧ _
    rw [hv, if_neg (nI_ge (by omega) (by omega)), add8 hs hz hn (by omega) e he hG g]
    unfold growH
    by_cases r : okH t (e i) (e (i + 1)) (e (i + 2)) (e (i + 3)) (e (i + 4)) = true
    · rw [if_pos r, if_pos r, bind_some', if_neg (show ¬ (1 : Int32) = 0 by decide), mw_eq, mw_eq]
      dsimp only
      obtain ⟨m', a1, a2, a3, a4, a5⟩ := ih N (c + 1) (i + 5) (h8w m (t 13 1) (e i) (e (i + 1)) (e (i + 2)) (e (i + 3)) (e (i + 4))) _ (by omega) (by omega) (by rw [h8w_n (by omega) (okH_use r).1]; exact hz) he (okH_good hG r) (okH_c hG g r)
      refine ⟨m', ?_, a2, a3, Eqs_t (h8w_e (okH_use r).1) a4, fun z => a5 (RB_h8w z)⟩
      rw [eS c 1 1 rfl, eS i 5 5 rfl, a1]
      rw [show c + 1 + (growH e q (i + 5) _).1 = c + ((growH e q (i + 5) (grow t 0 8 1 (newH (e i) (e (i + 1)) (e (i + 2)) (e (i + 3)) (e (i + 4))))).1 + 1) by omega]
    · rw [if_neg r, if_neg r, bind_some', if_pos rfl]
      exact ⟨m, rfl, hG, g, Eqs_r _ _, id⟩
theorem loop9 {s n T : Nat} (hs : s < 8) (hn : n ≤ 120) (hT : T ≤ n) (e : Nat → Int32) (N0 : Nat) (v2 v3 : Int32) (hv : v2 + v3 = nI T) (u : Nat → Int32) : ∀ (q N c i : Nat) (m : mj_m) (t : aT), q < N → i + 5 * q = T → (∀ k, k < n → (m.2 115 (120 * s + k)).toInt32 = e k) → Good t → Rep (mg m) t u →
    ∃ m', mj_lp N (f_X9_houses_73 N0 (nI s) v2 v3) (nI c, nI i, m) = some (nI (c + (growH e q i t).1), m') ∧ Rep (mg m') (growH e q i t).2 u ∧ Eqs okNC m m' := by
  intro q
  induction q with
  | zero =>
    intro N c i m t hN hq he hG g
    obtain ⟨N, rfl⟩ : ∃ k, N = k + 1 := ⟨N - 1, by omega⟩
    refine ⟨m, ?_, g, Eqs_r _ _⟩
    show (if v2 + v3 ≤ nI i then _ else _) = _
    rw [hv, if_pos (nI_le (by omega) (by omega))]; rfl
  | succ q ih =>
    intro N c i m t hN hq he hG g
    obtain ⟨N, rfl⟩ : ∃ k, N = k + 1 := ⟨N - 1, by omega⟩
    have gh := GH hG
    have q0 := int9 (m := m) (j := i) hs (by omega) N0
    have q1 := int9 (m := m) (j := i + 1) hs (by omega) N0
    have q2 := int9 (m := m) (j := i + 2) hs (by omega) N0
    have q3 := int9 (m := m) (j := i + 3) hs (by omega) N0
    have q4 := int9 (m := m) (j := i + 4) hs (by omega) N0
    rw [he _ (by omega)] at q0 q1 q2 q3 q4
    unfold growH
    show ∃ m', f_X9_houses_73 N0 (nI s) v2 v3 (mj_lp N (f_X9_houses_73 N0 (nI s) v2 v3)) (nI c, nI i, m) = _ ∧ _
    generalize hK : mj_lp N (f_X9_houses_73 N0 (nI s) v2 v3) = K
    unfold f_X9_houses_73
    dsimp only
    rw [hv, if_neg (nI_ge (by omega) (by omega)), y_houses g]
    by_cases z : t 13 1 = 10
    · have r : ¬ okH t (e i) (e (i + 1)) (e (i + 2)) (e (i + 3)) (e (i + 4)) = true   := fun y => by have := (okH_use y).1; omega
      rw [if_neg r, z, if_pos (by rfl)]
      exact ⟨m, rfl, g, Eqs_r _ _⟩
    · rw [if_neg (by intro y; exact absurd ((nI_eq (a := t 13 1) (b := 10) (by omega) (by omega)).mp y) (by omega)), q0, bind_some', isC9 N0 _ m m, eS i 1 1 rfl, q1, eS i 2 2 rfl, q2, eS i 3 3 rfl, q3, eS i 4 4 rfl, q4]
      rcases okH_t (t := t) (c := e i) (a := e (i + 1)) (b := e (i + 2)) (d := e (i + 3)) (e := e (i + 4)) (N := N0) (m := m) (m' := m) (by omega) with ⟨r, r1, r2⟩ | ⟨r, r1 | ⟨r1, r2⟩⟩
      · rw [r1, bind_some', if_neg (by decide), bind_some', bind_some', bind_some', bind_some', isCB9 N0 _ _ _ _ m m, r2, bind_some', if_neg (by decide), bind_some', bind_some', bind_some', bind_some', bind_some', a9_house (y_houses g) (by omega), bind_some', mw_eq, mw_eq, if_pos r]
        obtain ⟨m', a1, a3, a4⟩ := ih N (c + 1) (i + 5) (h9w m (t 13 1) (e i) (e (i + 1)) (e (i + 2)) (e (i + 3)) (e (i + 4))) _ (by omega) (by omega) he (okH_good hG r) (okH_m hG g r)
        refine ⟨m', ?_, a3, Eqs_t (h9w_e (okH_use r).1) a4⟩
        dsimp only
        rw [eS c 1 1 rfl, eS i 5 5 rfl, ← hK, a1]
        rw [show c + 1 + (growH e q (i + 5) _).1 = c + ((growH e q (i + 5) (grow t 0 8 1 (newH (e i) (e (i + 1)) (e (i + 2)) (e (i + 3)) (e (i + 4))))).1 + 1) by omega]
      · rw [r1, bind_some', if_pos rfl, if_neg (by rw [r]; decide)]
        exact ⟨m, rfl, g, Eqs_r _ _⟩
      · rw [r1, bind_some', if_neg (by decide), bind_some', bind_some', bind_some', bind_some', isCB9 N0 _ _ _ _ m m, r2, bind_some', if_pos rfl, if_neg (by rw [r]; decide)]
        exact ⟨m, rfl, g, Eqs_r _ _⟩
theorem five {n : Nat} (hn : n < 2 ^ 31) : nI n - nI n / 5 * 5 = 0 ↔ n % 5 = 0 := by
  have e1 : (nI n / 5).toInt = ((n / 5 : Nat) : Int) := by
    rw [Int32.toInt_div, nI_toInt hn, show (5 : Int32).toInt = 5 by decide, Int.tdiv_eq_ediv_of_nonneg (by omega)]
    rw [show ((n : Int) / 5) = ((n / 5 : Nat) : Int) by omega]
    apply Int.bmod_eq_of_le <;> omega
  have e2 : nI n / 5 = nI (n / 5) := Int32.toInt_inj.mp (by rw [e1, nI_toInt (by omega)])
  have e3 : nI (n / 5) * 5 = nI (n / 5 * 5) := nI_mul (n / 5) 5
  have e4 : nI n - nI (n / 5 * 5) = nI (n % 5) := by
    have : n = n / 5 * 5 + n % 5 := by omega
    apply Int32.toInt_inj.mp
    rw [Int32.toInt_sub, nI_toInt hn, nI_toInt (by omega), nI_toInt (by omega)]
    rw [show (n : Int) - ((n / 5 * 5 : Nat) : Int) = ((n % 5 : Nat) : Int) by omega]
    apply Int.bmod_eq_of_le <;> omega
  rw [e2, e3, e4]
  exact nI_eq (a := n % 5) (b := 0) (by omega) (by omega)
theorem ca_houses {m : mj_m} (h : Rel m) {N : Nat} (hN : 200 ≤ N) (v i n : Int32) : Both (f_X8_houses N v i n) (f_X9_houses N v i n) m := by
  obtain ⟨t, u, h1⟩ := h.1
  have h5 := h.2.2.2.2.1
  rcases lk_row h5 N v with ⟨r, r1, r2, b1, b2⟩ | ⟨s, o, z, hs, rfl, b, b1, b2⟩
  · refine ⟨-(nI r), rfu m r, rfm (rfu m r) r, ?_, ?_, Rel_rf h r⟩
    · unfold f_X8_houses; rw [b1, bind_some', if_neg (rn0 r1 (by omega)).1, rf8_g r1 (by omega)]; rfl
    · unfold f_X9_houses; rw [b2 _ (rfu110 m r), bind_some', if_neg (rn0 r1 (by omega)).2, rf9_g r1 (by omega)]; rfl
  obtain ⟨ho, hz, c1, c2, c3, c4, c5, c6⟩ := b
  by_cases hn0 : 0 ≤ n
  rotate_left
  · refine ⟨-4, rfu m 4, _, ?_, ?_, Rel_rf h 4⟩
    · unfold f_X8_houses; rw [b1, bind_some', if_pos rfl, if_neg hn0, rf8_4]; rfl
    · unfold f_X9_houses; rw [b2 _ (rfu110 m 4), bind_some', if_pos rfl, if_neg hn0, rf9_4]; rfl
  have hn0' : ¬ n < 0 := fun z => by rw [Int32.le_iff_toInt_le] at hn0; rw [Int32.lt_iff_toInt_lt] at z; omega
  obtain ⟨n, hn, rfl⟩ := nI_of hn0'
  have k8 : f_X8_houses N (nI s) i (nI n) m = (f_X6_hasRange N (79 + 2 * s) i (nI n) m).bind (fun r5 => if r5 = 0 then ((f_X8_refuse N 5 m).bind (fun r7 => some (r7.1, r7.2))) else (if (nI n - nI n / 5 * 5) = 0 then (mj_lp N (f_X8_houses_72 N i (nI n) (79 + 2 * s)) (0, i, m)) else ((f_X8_refuse N 6 m).bind (fun r8 => some (r8.1, r8.2))))) := by
    unfold f_X8_houses; rw [b1, bind_some', if_pos rfl, if_pos hn0, mj_ck_t (bb_35 hs), nI_clamp (by omega)]
  have k9 : ∀ m' : mj_m, (∀ s, s < 8 → m'.1 110 s = m.1 110 s) → m'.1 112 s = nI z → f_X9_houses N (nI s) i (nI n) m' = if i < 0 then f_X9_houses_47 N m' else if i ≤ nI z - nI n then (if (nI n - nI n / 5 * 5) = 0 then (mj_lp N (f_X9_houses_73 N (nI s) i (nI n)) (0, i, m')) else ((f_X9_no N (-6 : Int32) m').bind (fun r8 => some (r8.1, r8.2)))) else f_X9_houses_47 N m' := by
    intro m' d1 d2
    unfold f_X9_houses; rw [b2 m' d1, bind_some', if_pos rfl, if_pos hn0, mj_ck_t (bb_112 hs), nI_clamp (by omega), d2]
  have z112 : ∀ k s, (rfu m k).1 112 s = m.1 112 s := fun _ _ => wI_n (by omega)
  rcases range8 hs c5 hz N i hn with ⟨f1, f2⟩ | ⟨i, f2, rfl, f1, f3⟩
  · refine ⟨-5, rfu m 5, _, ?_, ?_, Rel_rf h 5⟩
    · rw [k8, f1, bind_some', if_pos rfl, rf8_5]; rfl
    · have e95 : f_X9_houses_47 N (rfu m 5) = some (-5, rfm (rfu m 5) 5) := by unfold f_X9_houses_47; rw [rf9_5]; rfl
      rw [k9 _ (rfu110 m 5) (by rw [z112, c3]), e95]
      by_cases w : i < 0
      · rw [if_pos w]
      · rw [if_neg w, if_neg]
        intro w2
        rcases f2 with f2 | f2
        · exact w f2
        · rw [Int32.le_iff_toInt_le] at w2; rw [Int32.lt_iff_toInt_lt] at f2; omega
  have w2 : nI i ≤ nI z - nI n := by rw [Int32.lt_iff_toInt_lt] at f3; rw [Int32.le_iff_toInt_le]; omega
  by_cases q : n % 5 = 0
  rotate_left
  · refine ⟨-6, rfu m 6, _, ?_, ?_, Rel_rf h 6⟩
    · rw [k8, f1, bind_some', if_neg (by decide), if_neg (fun y => q ((five hn).mp y)), rf8_6]; rfl
    · rw [k9 _ (rfu110 m 6) (by rw [z112, c3]), if_neg (nI_pos (by omega)), if_pos w2, if_neg (fun y => q ((five hn).mp y)), rf9_6]; rfl
  let e : Nat → Int32 := fun k => (m.2 (80 + 2 * s) k).toInt32
  have hv : nI i + nI n = nI (i + n) := nI_add _ _
  obtain ⟨m1, a1, a2, a3, a4, a5⟩ := loop8 hs hz f2 e N (nI i) (nI n) hv u (n / 5) N 0 i m t (by omega) (by omega) c5 (fun k hk => rfl) h1.1 h1.2.1
  have g9 : Rep (mg m1) t u := RT_m h1.1 h1.2.2 (fun a k q => a4.1 a k (Or.inr q))
  obtain ⟨m2, d1, d3, d4⟩ := loop9 hs hz f2 e N (nI i) (nI n) hv u (n / 5) N 0 i m1 t (by omega) (by omega) (fun k hk => by rw [a4.2 115 _ (by unfold okL; omega), ← c6 k hk]) h1.1 g9
  refine ⟨nI (0 + (growH e (n / 5) i t).1), m1, m2, ?_, ?_, Rel_N h (t' := (growH e (n / 5) i t).2) (u' := u) ⟨a2, ?_, d3⟩ ?_ (fun z => RB_of (a5 z) (fun a q => Or.inl (d4.1 a 7 (by unfold okNC okN okC; omega))))⟩
  · rw [k8, f1, bind_some', if_neg (by decide), if_pos ((five hn).mpr q)]; exact a1
  · rw [k9 m1 (fun s hs => a4.1 110 s (Or.inl (by unfold okN; omega))) ((a4.1 112 s (Or.inl (by unfold okN; omega))).trans c3), if_neg (nI_pos (by omega)), if_pos w2, if_pos ((five hn).mpr q)]; exact d1
  · exact RT_c a2 a3 (fun a k q => d4.1 a k (Or.inr q))
  · exact Eqs_t (Eqs_m a4 (fun a k q => Or.inl q)) (Eqs_m d4 (fun a k q => Or.inl q))
