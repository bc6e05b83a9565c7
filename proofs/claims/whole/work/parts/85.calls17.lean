/-! THE CALLS, further: head, bound -/
def hdM (c : Nat → Int32) (l : Nat → Int64) : Nat → Int32 × Int64
  | 0 => (-1, 0)
  | s + 1 => if c s = 2 ∧ ((hdM c l s).1 = -1 ∨ lg_cmp (l s) (hdM c l s).2 < 0) then (nI s, l s) else hdM c l s
theorem hdM_y {c : Nat → Int32} {l : Nat → Int64} {s : Nat} (h : c s = 2 ∧ ((hdM c l s).1 = -1 ∨ lg_cmp (l s) (hdM c l s).2 < 0)) : hdM c l (s + 1) = (nI s, l s) := if_pos h
theorem hdM_n {c : Nat → Int32} {l : Nat → Int64} {s : Nat} (h : ¬ (c s = 2 ∧ ((hdM c l s).1 = -1 ∨ lg_cmp (l s) (hdM c l s).2 < 0))) : hdM c l (s + 1) = hdM c l s := if_neg h
theorem isRu {m m' : mj_m} (h : RS m) {s : Nat} (hs : s < 8) (e : m'.1 (79 + 2 * s) 1 = m.1 (79 + 2 * s) 1) (N : Nat) : (m.1 110 s = 2 ∧ f_X6_isRule N (79 + 2 * s) m' = some 1) ∨ (¬ m.1 110 s = 2 ∧ f_X6_isRule N (79 + 2 * s) m' = some 0) := by
  rcases sh_cases (h s hs) with b | ⟨o, n, b⟩ | ⟨k, a, b⟩
  · exact Or.inr ⟨by rw [b.1]; decide, (is_N hs (e.trans b.2.1) N).1⟩
  · exact Or.inr ⟨by rw [b.2.2.1]; decide, (is_Row hs b.1 (e.trans b.2.2.2.2.2.1) N).1⟩
  · exact Or.inl ⟨b.2.1, (is_Rule hs b.1 (e.trans b.2.2.2.1) N).1⟩
theorem losses {m : mj_m} (h : RS m) (t : aT) (u : Nat → Int32) (n : Nat) : ∃ l : Nat → Int64, ∀ s, s < 8 → m.1 110 s = 2 → ∃ k a e n', Ru m s k a e n' ∧ l s = lsY t (ordL t k a e n') (s0Y t u) n := by
  have H : ∀ s, ∃ l : Int64, s < 8 → m.1 110 s = 2 → ∃ k a e n', Ru m s k a e n' ∧ l = lsY t (ordL t k a e n') (s0Y t u) n := fun s => by
    by_cases q : s < 8 ∧ m.1 110 s = 2
    · rcases sh_cases (h s q.1) with b | ⟨o, n', b⟩ | ⟨k, a, b⟩
      · exfalso; have := q.2; rw [b.1] at this; exact absurd this (by decide)
      · exfalso; have := q.2; rw [b.2.2.1] at this; exact absurd this (by decide)
      · obtain ⟨e, n', r⟩ := Ru_of b
        exact ⟨_, fun _ _ => ⟨k, a, e, n', r, rfl⟩⟩
    · exact ⟨0, fun h1 h2 => absurd ⟨h1, h2⟩ q⟩
  exact ⟨fun s => (H s).choose, fun s => (H s).choose_spec⟩
theorem head8 {m : mj_m} {t : aT} {u : Nat → Int32} (hG : Good t) (g : Rep (cg m 1 8) t u) (hR : RS m) {l : Nat → Int64} {n : Nat} (hn : n ≤ 20) (hl : ∀ s, s < 8 → m.1 110 s = 2 → ∃ k a e n', Ru m s k a e n' ∧ l s = lsY t (ordL t k a e n') (s0Y t u) n) {N : Nat} (hN : 1100 ≤ N) : ∃ m', mj_lp N (f_X8_head_70 N (nI n)) ((-1 : Int32), 0, 0, m) = some ((hdM (m.1 110) l 8).1, m') ∧ Pd m m' := by
  obtain ⟨s, ⟨-, r2, r3⟩, r5⟩ := lp_cnt (B := f_X8_head_70 N (nI n)) (E := fun s => some (s.1, s.2.2.2)) (c := 8) (N := N) (s0 := ((-1 : Int32), 0, 0, m)) (fun i s => s.2.2.1 = nI i ∧ (s.1, s.2.1) = hdM (m.1 110) l i ∧ Pd m s.2.2.2) (by omega)
    ⟨rfl, rfl, Pd_r m⟩
    (fun i s hi ⟨e1, e2, e3⟩ => by
      have u1 : s.1 = (hdM (m.1 110) l i).1 := by rw [← e2]
      have u2 : s.2.1 = (hdM (m.1 110) l i).2 := by rw [← e2]
      have r := isRu hR hi (m' := s.2.2.2) (e3.1 _ 1 (by omega)) N
      rcases r with ⟨q, r⟩ | ⟨q, r⟩
      · obtain ⟨k, a, e, n', ru, le⟩ := hl i hi q
        obtain ⟨m2, d1, d2⟩ := lossRule8 hG (Pd_c hG g e3) hi (Ru_A hi ru (Pd_E e3)) hn hN
        refine ⟨((hdM (m.1 110) l (i + 1)).1, (hdM (m.1 110) l (i + 1)).2, nI (i + 1), m2), ⟨rfl, rfl, Pd_t e3 d2⟩, fun κ => ?_⟩
        unfold f_X8_head_70 f_X8_head_120 f_X8_head_127
        rw [e1, if_neg (show ¬ 8 ≤ nI i from (nI_ge hi (by omega) : ¬ nI 8 ≤ nI i)), mj_ck_t (bb_35 hi), nI_clamp (by omega), r, bind_some', if_neg (by decide), d1, bind_some', u1, u2, ← le]
        simp only [mw_eq, nI_succ]
        by_cases y1 : (hdM (m.1 110) l i).1 = -1
        · rw [if_pos y1, hdM_y ⟨q, Or.inl y1⟩]
        · rw [if_neg y1]
          by_cases y2 : lg_cmp (l i) (hdM (m.1 110) l i).2 < 0
          · rw [if_neg (fun z => (lg0n _ _).mp z y2), hdM_y ⟨q, Or.inr y2⟩]
          · rw [if_pos ((lg0n _ _).mpr y2), hdM_n (fun z => z.2.elim y1 y2)]
      · refine ⟨(s.1, s.2.1, nI (i + 1), s.2.2.2), ⟨rfl, by rw [hdM_n (fun z => q z.1)]; exact e2, e3⟩, fun κ => ?_⟩
        unfold f_X8_head_70 f_X8_head_127
        rw [e1, if_neg (show ¬ 8 ≤ nI i from (nI_ge hi (by omega) : ¬ nI 8 ≤ nI i)), mj_ck_t (bb_35 hi), nI_clamp (by omega), r, bind_some', if_pos rfl, mw_eq, nI_succ])
    (fun s ⟨e1, _, _⟩ κ => by
      unfold f_X8_head_70
      rw [e1, if_pos (show (8 : Int32) ≤ nI 8 by decide)])
  exact ⟨s.2.2.2, by rw [r5, show s.1 = (hdM (m.1 110) l 8).1 by rw [← r2]], r3⟩
theorem head9 {m : mj_m} {t : aT} {u : Nat → Int32} (hG : Good t) (g : Rep (mg m) t u) {c : Nat → Int32} (hc : ∀ s, s < 8 → m.1 110 s = c s) {l : Nat → Int64} {n : Nat} (hn : n ≤ 20) (hl : ∀ s, s < 8 → c s = 2 → ∃ k a e n', Ru m s k a e n' ∧ l s = lsY t (ordL t k a e n') (s0Y t u) n) {N : Nat} (hN : 1100 ≤ N) : ∃ m', mj_lp N (f_X9_head_76 N (nI n)) ((-1 : Int32), 0, 0, m) = some ((hdM c l 8).1, m') ∧ Eqs okA m m' := by
  have gh := GH hG
  obtain ⟨s, ⟨-, r2, r3⟩, r5⟩ := lp_cnt (B := f_X9_head_76 N (nI n)) (E := fun s => some (s.1, s.2.2.2)) (c := 8) (N := N) (s0 := ((-1 : Int32), 0, 0, m)) (fun i s => s.2.2.1 = nI i ∧ (s.1, s.2.1) = hdM c l i ∧ Eqs okA m s.2.2.2) (by omega)
    ⟨rfl, rfl, Eqs_r _ m⟩
    (fun i s hi ⟨e1, e2, e3⟩ => by
      have u1 : s.1 = (hdM c l i).1 := by rw [← e2]
      have u2 : s.2.1 = (hdM c l i).2 := by rw [← e2]
      have vc : s.2.2.2.1 110 i = c i := by rw [E110 e3 i hi, hc i hi]
      by_cases q : c i = 2
      · obtain ⟨k, a, e, n', ru, le⟩ := hl i hi q
        have gs : Rep (mg s.2.2.2) t u := RT_m hG g (fun a k q => e3.1 a k (Or.inr (Or.inr q)))
        obtain ⟨m2, y1, y2, y3, y4⟩ := rowBy9 hG gs hi (Ru_A hi ru e3) hN
        have ll := ordL_len gh k a e n'
        obtain ⟨m3, z1, z2, z3⟩ := planned9 hG (ordL_ok gh k a e n').2 (by omega) (RT_m hG gs (fun a k q => y4.1 a k (Or.inr (Or.inr q)))) y2 y3 hn hN
        refine ⟨((hdM c l (i + 1)).1, (hdM c l (i + 1)).2, nI (i + 1), m3), ⟨rfl, rfl, Eqs_t e3 (Eqs_t y4 (Fp_E z3))⟩, fun κ => ?_⟩
        unfold f_X9_head_76 f_X9_head_125 f_X9_head_131
        rw [e1, if_neg (show ¬ 8 ≤ nI i from (nI_ge hi (by omega) : ¬ nI 8 ≤ nI i)), mj_ck_t (bb_110 hi), nI_clamp (by omega), vc, if_pos q, y1, bind_some', z1, bind_some', u1, u2, ← le]
        simp only [mw_eq, nI_succ]
        by_cases y1 : (hdM c l i).1 = -1
        · rw [if_pos y1, hdM_y ⟨q, Or.inl y1⟩]
        · rw [if_neg y1]
          by_cases y2 : lg_cmp (l i) (hdM c l i).2 < 0
          · rw [if_pos y2, hdM_y ⟨q, Or.inr y2⟩]
          · rw [if_neg y2, hdM_n (fun z => z.2.elim y1 y2)]
      · refine ⟨(s.1, s.2.1, nI (i + 1), s.2.2.2), ⟨rfl, by rw [hdM_n (fun z => q z.1)]; exact e2, e3⟩, fun κ => ?_⟩
        unfold f_X9_head_76 f_X9_head_131
        rw [e1, if_neg (show ¬ 8 ≤ nI i from (nI_ge hi (by omega) : ¬ nI 8 ≤ nI i)), mj_ck_t (bb_110 hi), nI_clamp (by omega), vc, if_neg q, mw_eq, nI_succ])
    (fun s ⟨e1, _, _⟩ κ => by
      unfold f_X9_head_76
      rw [e1, if_pos (show (8 : Int32) ≤ nI 8 by decide)])
  exact ⟨s.2.2.2, by rw [r5, show s.1 = (hdM c l 8).1 by rw [← r2]], r3⟩
def anR (c : Nat → Int32) : Nat → Int32
  | 0 => 0
  | s + 1 => if anR c s = 0 then (if c s = 2 then 1 else 0) else 1
theorem any8 {m : mj_m} (hR : RS m) (v : Int32) {N : Nat} (hN : 20 ≤ N) : f_X8_head N v m = if anR (m.1 110) 8 = 0 then ((f_X8_refuse N 5 m).bind (fun r3 => some (r3.1, r3.2))) else ((f_X8_areYears N v m).bind (fun r3 => if r3 = 0 then ((f_X8_refuse N 6 m).bind (fun r5 => some (r5.1, r5.2))) else (mj_lp N (f_X8_head_70 N v) ((-1 : Int32), 0, 0, m)))) := by
  obtain ⟨s, ⟨-, r2⟩, r5⟩ := lp_cnt (B := f_X8_head_4 N v m) (E := fun s => if s.1 = 0 then ((f_X8_refuse N 5 m).bind (fun r3 => some (r3.1, r3.2))) else ((f_X8_areYears N v m).bind (fun r3 => if r3 = 0 then ((f_X8_refuse N 6 m).bind (fun r5 => some (r5.1, r5.2))) else (mj_lp N (f_X8_head_70 N v) ((-1 : Int32), 0, 0, m))))) (c := 8) (N := N) (s0 := ((0 : Int32), (0 : Int32))) (fun i s => s.2 = nI i ∧ s.1 = anR (m.1 110) i) (by omega)
    ⟨rfl, rfl⟩
    (fun i s hi ⟨e1, e2⟩ => by
      refine ⟨(anR (m.1 110) (i + 1), nI (i + 1)), ⟨rfl, rfl⟩, fun κ => ?_⟩
      unfold f_X8_head_4 f_X8_head_26 f_X8_head_31
      rw [e1, e2, if_neg (show ¬ 8 ≤ nI i from (nI_ge hi (by omega) : ¬ nI 8 ≤ nI i))]
      simp only [mw_eq, nI_succ]
      show _ = κ (if anR (m.1 110) i = 0 then (if m.1 110 i = 2 then 1 else 0) else 1, nI i + 1)
      by_cases y : anR (m.1 110) i = 0
      · rw [if_pos y, if_pos y, mj_ck_t (bb_35 hi), nI_clamp (by omega)]
        rcases isRu hR hi (m' := m) rfl N with ⟨q, r⟩ | ⟨q, r⟩
        · rw [r, bind_some', if_neg (by decide), if_pos q]
        · rw [r, bind_some', if_pos rfl, if_neg q]
      · rw [if_neg y, if_neg y])
    (fun s ⟨e1, _⟩ κ => by
      unfold f_X8_head_4
      rw [e1, if_pos (show (8 : Int32) ≤ nI 8 by decide)])
  unfold f_X8_head
  rw [r5, r2]
theorem any9 {m : mj_m} {c : Nat → Int32} (hc : ∀ s, s < 8 → m.1 110 s = c s) (v : Int32) {N : Nat} (hN : 20 ≤ N) : f_X9_head N v m = if anR c 8 = 0 then ((f_X9_no N (-5 : Int32) m).bind (fun r3 => some (r3.1, r3.2))) else ((f_X9_isYears N v m).bind (fun r3 => if r3 = 0 then ((f_X9_no N (-6 : Int32) m).bind (fun r5 => some (r5.1, r5.2))) else (mj_lp N (f_X9_head_76 N v) ((-1 : Int32), 0, 0, m)))) := by
  obtain ⟨s, ⟨-, r2⟩, r5⟩ := lp_cnt (B := f_X9_head_10 N v (-1 : Int32) 0 m) (E := fun s => if s.1 = 0 then ((f_X9_no N (-5 : Int32) m).bind (fun r3 => some (r3.1, r3.2))) else ((f_X9_isYears N v m).bind (fun r3 => if r3 = 0 then ((f_X9_no N (-6 : Int32) m).bind (fun r5 => some (r5.1, r5.2))) else (mj_lp N (f_X9_head_76 N v) ((-1 : Int32), 0, 0, m))))) (c := 8) (N := N) (s0 := ((0 : Int32), (0 : Int32))) (fun i s => s.2 = nI i ∧ s.1 = anR c i) (by omega)
    ⟨rfl, rfl⟩
    (fun i s hi ⟨e1, e2⟩ => by
      refine ⟨(anR c (i + 1), nI (i + 1)), ⟨rfl, rfl⟩, fun κ => ?_⟩
      unfold f_X9_head_10 f_X9_head_33 f_X9_head_38
      rw [e1, e2, if_neg (show ¬ 8 ≤ nI i from (nI_ge hi (by omega) : ¬ nI 8 ≤ nI i))]
      simp only [mw_eq, nI_succ]
      show _ = κ (if anR c i = 0 then (if c i = 2 then 1 else 0) else 1, nI i + 1)
      by_cases y : anR c i = 0
      · rw [if_pos y, if_pos y, mj_ck_t (bb_110 hi), nI_clamp (by omega), hc i hi]
        by_cases q : c i = 2
        · rw [if_pos q, if_pos q]
        · rw [if_neg q, if_neg q]
      · rw [if_neg y, if_neg y])
    (fun s ⟨e1, _⟩ κ => by
      unfold f_X9_head_10
      rw [e1, if_pos (show (8 : Int32) ≤ nI 8 by decide)])
  unfold f_X9_head
  rw [r5, r2]
theorem ca_head {m : mj_m} (h : Rel m) {N : Nat} (hN : 1100 ≤ N) (v : Int32) : Both (f_X8_head N v) (f_X9_head N v) m := by
  obtain ⟨t, u, h1⟩ := h.1
  have hG := h1.1
  have hR := RS_of h
  have f8 := any8 hR v (N := N) (by omega)
  by_cases q : anR (m.1 110) 8 = 0
  · rw [if_pos q] at f8
    have f9 := any9 (m := rfu m 5) (c := m.1 110) (fun s hs => rfu110 m 5 s hs) v (N := N) (by omega)
    rw [if_pos q] at f9
    refine ⟨-5, rfu m 5, _, ?_, ?_, Rel_rf h 5⟩
    · rw [f8, rf8_5]; rfl
    · rw [f9, rf9_5]; rfl
  rw [if_neg q] at f8
  rcases yrs8 N v m with y | ⟨n, n1, n2, rfl, y⟩
  · have f9 := any9 (m := rfu m 6) (c := m.1 110) (fun s hs => rfu110 m 6 s hs) v (N := N) (by omega)
    rw [if_neg q] at f9
    refine ⟨-6, rfu m 6, _, ?_, ?_, Rel_rf h 6⟩
    · rw [f8, y, bind_some', if_pos rfl, rf8_6]; rfl
    · rw [f9, yrs9 N v m, y, bind_some', if_pos rfl, rf9_6]; rfl
  obtain ⟨l, hl⟩ := losses hR t u n
  obtain ⟨m1, x1, x2⟩ := head8 hG h1.2.1 hR n2 hl hN
  have e1 := Pd_E x2
  have r1 : RT m1 t u := RT_S h1 e1
  obtain ⟨m2, y1, y2⟩ := head9 hG r1.2.2 (E110 e1) n2 (fun s hs c2 => by
    obtain ⟨k, a, e, n', ru, le⟩ := hl s hs c2
    exact ⟨k, a, e, n', Ru_A hs ru e1, le⟩) hN
  have f9 := any9 (m := m1) (c := m.1 110) (E110 e1) (nI n) (N := N) (by omega)
  rw [if_neg q] at f9
  refine ⟨(hdM (m.1 110) l 8).1, m1, m2, ?_, ?_, Rel_S h (Eqs_t e1 y2)⟩
  · rw [f8, y, bind_some', if_neg (by decide)]; exact x1
  · rw [f9, yrs9 N (nI n) m, y, bind_some', if_neg (by decide)]; exact y1
