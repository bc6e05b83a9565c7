/-! THE CALLS, further: worth, which, narrow -/
theorem ne2 {x : Nat} (h : x < 1000) (q : ¬ x = 2) : ¬ nI x = 2 := fun z => q ((nI_eq (b := 2) (by omega) (by decide)).mp z)
theorem ne4 {x : Nat} (h : x < 1000) (q : ¬ x = 4) : ¬ nI x = 4 := fun z => q ((nI_eq (b := 4) (by omega) (by decide)).mp z)
theorem ne6 {x : Nat} (h : x < 1000) (q : ¬ x = 6) : ¬ nI x = 6 := fun z => q ((nI_eq (b := 6) (by omega) (by decide)).mp z)
def Pd (m m' : mj_m) : Prop := (∀ a k, (a < 36 ∨ (55 ≤ a ∧ a ≠ 78)) → m'.1 a k = m.1 a k) ∧ (∀ a k, (a < 42 ∨ 55 ≤ a) → m'.2 a k = m.2 a k)
theorem Pd_r (m : mj_m) : Pd m m := ⟨fun _ _ _ => rfl, fun _ _ _ => rfl⟩
theorem Pd_t {m m' m'' : mj_m} (h : Pd m m') (h' : Pd m' m'') : Pd m m'' := ⟨fun a k q => (h'.1 a k q).trans (h.1 a k q), fun a k q => (h'.2 a k q).trans (h.2 a k q)⟩
theorem Pd_w {m m' : mj_m} {a k : Nat} {v : Int32} (h : Pd m m') (q : (36 ≤ a ∧ a < 55) ∨ a = 78) : Pd m (mj_wI m' a k v) := Pd_t h ⟨fun b j hb => wI_n (by omega), fun _ _ _ => rfl⟩
theorem Pd_L {m m' : mj_m} {a k : Nat} {v : Int64} (h : Pd m m') (q : 42 ≤ a ∧ a < 55) : Pd m (mj_wL m' a k v) := Pd_t h ⟨fun _ _ _ => rfl, fun b j hb => wL_n (by omega)⟩
theorem kI_n {m : mj_m} {a b c d n A K : Nat} (q : A ≠ b) : (mj_kI m a b c d n).1 A K = m.1 A K := by rw [kI_1, cpy_at, if_neg q]
theorem kI_e {m : mj_m} {a b n K : Nat} (q : K < n) : (mj_kI m a b 0 0 n).1 b K = m.1 a K := by rw [kI_1, cpy_at, if_pos rfl, if_pos (by omega), Nat.zero_add, Nat.sub_zero]
theorem Pd_k {m m' : mj_m} {a b c d n : Nat} (h : Pd m m') (q : 36 ≤ b ∧ b < 55) : Pd m (mj_kI m' a b c d n) := Pd_t h ⟨fun A K hb => kI_n (by omega), fun _ _ _ => rfl⟩
theorem Od_P {m m' : mj_m} (e : Od m m') : Pd m m' := ⟨fun a k q => e.1 a k (by omega), fun a k q => e.2 a k (by omega)⟩
theorem Pd_c {m m' : mj_m} {t : aT} {u : Nat → Int32} (hG : Good t) (h : Rep (cg m 1 8) t u) (e : Pd m m') : Rep (cg m' 1 8) t u := RT_c hG h (fun a k q => e.1 a k (by unfold okC at q; omega))
theorem Pd_E {m m' : mj_m} (e : Pd m m') : Eqs okA m m' := ⟨fun a k q => e.1 a k (by unfold okA okN okC okM at q; omega), fun a k q => e.2 a k (by unfold okL at q; omega)⟩
def inc (st : Nat → Nat) (k : Nat) : Nat → Nat := fun i => if i = k then st i + 1 else st i
def wth (t : aT) (h : Nat) : Int64 := YM t (t 7) - YM t (inc (t 7) h)
theorem st_le {t : aT} (hG : Good t) {h : Nat} (hh : h < t 13 1) : t 7 h ≤ 2 := (hG.2.1 h hh).2.2.2.2.2.2.2.1
theorem worth8 {m : mj_m} {t : aT} {u : Nat → Int32} (hG : Good t) (g : Rep (cg m 1 8) t u) (w : WY m t) {k : Nat} (hk : k < t 13 1) (h2 : t 7 k < 2) (x : Int64) {N : Nat} (hN : 1100 ≤ N) : ∃ m', f_X4_worthOf N (nI k) x m = some (x - YM t (inc (t 7) k), m') ∧ Pd m m' ∧ WY m' t := by
  have gh := GH hG
  unfold f_X4_worthOf
  rw [mj_ck_t (by decide), mw_eq, show (0 : Int32).toNatClampNeg = 0 from rfl, show (10 : Int32).toNatClampNeg = 10 from rfl, mj_ck_t (bb_50 (by omega)), nI_clamp (by omega), mw_eq, kI_e (by omega), x_steps g hk, ← nI_succ]
  have p1 : Pd m (mj_wI (mj_kI m 5 50 0 0 10) 50 k (nI (t 7 k + 1))) := Pd_w (Pd_k (Pd_r m) (by omega)) (by omega)
  have w1 : WY (mj_wI (mj_kI m 5 50 0 0 10) 50 k (nI (t 7 k + 1))) t := WY_e w (fun a j q1 q2 q3 => by rw [wI_n (by omega), kI_n (by omega)]) (fun _ => rfl)
  have s1 : StA (mj_wI (mj_kI m 5 50 0 0 10) 50 k (nI (t 7 k + 1))) 50 t (inc (t 7) k) := ⟨fun i hi => bb_50 hi, fun i hi => by
    have := st_le hG hi
    unfold inc
    by_cases y : i = k
    · rw [if_pos y, y, wI_e]; exact ⟨rfl, by omega⟩
    · rw [if_neg y, wI_n (by omega), kI_e (by omega), x_steps g hi]; exact ⟨rfl, this⟩⟩
  obtain ⟨m2, r1, r2⟩ := meanY8 hG (Pd_c hG g p1) w1 (by decide) s1 hN
  refine ⟨m2, ?_, Pd_t p1 (Od_P (Os_O r2)), Os_W r2 w1⟩
  rw [r1]; rfl
theorem worthOf9 {m : mj_m} {t : aT} {u : Nat → Int32} (hG : Good t) (g : Rep (mg m) t u) (w : WZ m t) {k : Nat} (hk : k < t 13 1) (h2 : t 7 k < 2) {N : Nat} (hN : 1100 ≤ N) : ∃ m', f_X9_worthOf N (nI k) m = some (wth t k, m') ∧ m'.1 = m.1 ∧ (∀ A K, A ≠ 121 → m'.2 A K = m.2 A K) := by
  have gh := GH hG
  obtain ⟨m1, a1, a2, a3⟩ := meanY9 hG g w hN
  have g1 : Rep (mg m1) t u := RT_m hG g (fun a k _ => by rw [a2])
  have gS : Good (tS t (inc (t 7) k)) := Good_tS hG (fun i hi => by
    have := st_le hG hi
    unfold inc
    by_cases y : i = k
    · rw [if_pos y, y]; omega
    · rw [if_neg y]; exact this)
  have g2 : Rep (mg (mj_wI m1 108 k (nI (t 7 k + 1)))) (tS t (inc (t 7) k)) u := Rep_tS hG g1 (fun a j _ q => wI_n (by omega)) (fun i hi => by
    unfold inc
    by_cases y : i = k
    · rw [if_pos y, y, wI_e]
    · rw [if_neg y, wI_n (by omega), y_steps g1 hi])
  obtain ⟨m2, b1, b2, b3⟩ := meanY9 gS g2 (WZ_c (fun f q => tS_o t _ q) (fun j => a3 122 j (by omega)) w) hN
  rw [tS_7, YM_c (fun f q => tS_o t _ q)] at b1
  refine ⟨mj_wI m2 108 k (nI (t 7 k)), ?_, ?_, fun A K q => (b3 A K q).trans (a3 A K q)⟩
  · unfold f_X9_worthOf
    rw [a1, bind_some', mj_ck_t (bb_108 (by omega)), nI_clamp (by omega), mw_eq, y_steps g1 hk, ← nI_succ, b1, bind_some', mw_eq, mw_eq, b2, wI_e, nI_pred]
    rfl
  · funext A K
    rw [wI_1, up_at]
    by_cases y : A = 108 ∧ K = k
    · rw [if_pos y, y.1, y.2, ← a2, y_steps g1 hk]
    · rw [if_neg y, b2, wI_n (by omega), a2]
theorem ca_worth {m : mj_m} (h : Rel m) {N : Nat} (hN : 1100 ≤ N) (v : Int32) : BothL (f_X8_worth N v) (f_X9_worth N v) m := by
  obtain ⟨t, u, h1⟩ := h.1
  have hG := h1.1
  have gh := GH hG
  rcases isH8 h1 N v with ⟨a1, a2⟩ | ⟨k, hk, rfl, a1⟩
  · refine ⟨-1000001, rfu m 1, _, ?_, ?_, Rel_rf h 1⟩
    · unfold f_X8_worth; rw [a1, bind_some', if_pos rfl, rl8_1]; rfl
    · unfold f_X9_worth; rw [isH9_n (RT_rfu h1 1) N a2, bind_some', if_pos rfl, rl9_1]; rfl
  have sl := st_le hG hk
  by_cases q : t 7 k = 2
  · have h2 := RT_rfu h1 6
    refine ⟨-1000006, rfu m 6, _, ?_, ?_, Rel_rf h 6⟩
    · unfold f_X8_worth; rw [a1, bind_some', if_neg (by decide), mj_ck_t (bb_5 (by omega)), nI_clamp (by omega), c_steps h1 hk, q, if_neg (by decide), rl8_6]; rfl
    · unfold f_X9_worth; rw [isH9' h2 N hk, bind_some', if_neg (by decide), mj_ck_t (bb_108 (by omega)), nI_clamp (by omega), m_steps h2 hk, q, if_pos (by rfl), rl9_6]; rfl
  · obtain ⟨m1, b1, b2, b3⟩ := weighYear8 hG h1.2.1 hN
    have g1 := Od_c hG h1.2.1 b3
    obtain ⟨m2, c1, c2⟩ := meanY8 hG g1 b2 (by decide) (St5 hG g1) hN
    have o2 := Od_t b3 (Os_O c2)
    obtain ⟨m3, d1, d2, d3⟩ := worth8 hG (Od_c hG h1.2.1 o2) (Os_W c2 b2 : WY m2 t) hk (by omega) (YM t (t 7)) hN
    have p3 := Pd_t (Od_P o2) d2
    have r3 : RT m3 t u := RT_S h1 (Pd_E p3)
    obtain ⟨m4, e1, e2, e3, e4⟩ := worthsY9 hG r3.2.2 hN
    have g4 : Rep (mg m4) t u := RT_m hG r3.2.2 (fun a k _ => by rw [e3])
    obtain ⟨m5, f1, f2, f3⟩ := worthOf9 hG g4 e2 hk (by omega) hN
    refine ⟨YM t (t 7) - YM t (inc (t 7) k), m3, m5, ?_, ?_, Rel_S h (Eqs_t (Pd_E p3) (Eq_M (f2.trans e3) (fun A K q1 q2 => (f3 A K q1).trans (e4 A K q2))))⟩
    · unfold f_X8_worth; rw [a1, bind_some', if_neg (by decide), mj_ck_t (bb_5 (by omega)), nI_clamp (by omega), c_steps h1 hk, if_pos (show nI (t 7 k) < 2 from (nI_lt (show t 7 k < 2 by omega) (by omega) : nI (t 7 k) < nI 2)), b1, bind_some', c1, bind_some', d1]; rfl
    · unfold f_X9_worth; rw [isH9' r3 N hk, bind_some', if_neg (by decide), mj_ck_t (bb_108 (by omega)), nI_clamp (by omega), m_steps r3 hk, if_neg (ne2 (by omega) q), e1, bind_some', f1]; rfl
def whM (t : aT) : Nat → Int32 × Int64
  | 0 => (-1, 0)
  | n + 1 => if t 7 n = 2 then whM t n else if (whM t n).1 = -1 ∨ 0 < lg_cmp (wth t n / lN (t 4 n)) (whM t n).2 then (nI n, wth t n / lN (t 4 n)) else whM t n
theorem le0n (c : Int32) : c ≤ 0 ↔ ¬ 0 < c := by rw [Int32.le_iff_toInt_le, Int32.lt_iff_toInt_lt]; omega
theorem lN_ne0 {a : Nat} (h1 : 1 ≤ a) (h2 : a < 1000) : lN a ≠ 0 := fun z => by
  have := (lN_eq (a := a) (b := 0) (by omega) (by omega)).mp z
  omega
theorem which8 {m : mj_m} {t : aT} {u : Nat → Int32} (hG : Good t) (g : Rep (cg m 1 8) t u) {N : Nat} (hN : 1100 ≤ N) : ∃ m', f_X4_worthiest N m = some ((whM t (t 13 1)).1, m') ∧ Pd m m' := by
  have gh := GH hG
  obtain ⟨m1, b1, b2, b3⟩ := weighYear8 hG g hN
  have g1 := Od_c hG g b3
  obtain ⟨m2, c1, c2⟩ := meanY8 hG g1 b2 (by decide) (St5 hG g1) hN
  have o2 := Od_t b3 (Os_O c2)
  have w2 : WY m2 t := Os_W c2 b2
  unfold f_X4_worthiest
  rw [b1, bind_some', c1, bind_some']
  obtain ⟨s, ⟨-, r2, r3, r4⟩, r5⟩ := lp_cnt (B := f_X4_worthiest_30 N (YM t (t 7))) (E := fun s => some (s.1, s.2.2.2)) (c := t 13 1) (N := N) (s0 := ((-1 : Int32), 0, 0, m2)) (fun i s => s.2.2.1 = nI i ∧ (s.1, s.2.1) = whM t i ∧ Pd m s.2.2.2 ∧ WY s.2.2.2 t) (by omega)
    ⟨rfl, rfl, Od_P o2, w2⟩
    (fun i s hi ⟨e1, e2, e3, e4⟩ => by
      have gs := Pd_c hG g e3
      have sl := st_le hG hi
      obtain ⟨c1, c2⟩ := (hG.2.1 i hi).2.2.2.2.1
      have u1 : s.1 = (whM t i).1 := by rw [← e2]
      have u2 : s.2.1 = (whM t i).2 := by rw [← e2]
      by_cases q : t 7 i = 2
      · refine ⟨(s.1, s.2.1, nI (i + 1), s.2.2.2), ⟨rfl, e2.trans (if_pos q : whM t (i + 1) = _).symm, e3, e4⟩, fun k => ?_⟩
        unfold f_X4_worthiest_30 f_X4_worthiest_104
        rw [x_houses gs, e1, if_neg (nI_ge hi (by omega)), mj_ck_t (bb_5 (by omega)), nI_clamp (by omega), x_steps gs hi, q, if_pos (by decide), mw_eq, nI_succ]
      · obtain ⟨m3, d1, d2, d3⟩ := worth8 hG gs e4 hi (by omega) (YM t (t 7)) hN
        have g3 := Pd_c hG gs d2
        refine ⟨((whM t (i + 1)).1, (whM t (i + 1)).2, nI (i + 1), m3), ⟨rfl, rfl, Pd_t e3 d2, d3⟩, fun k => ?_⟩
        have wm : whM t (i + 1) = if (whM t i).1 = -1 ∨ 0 < lg_cmp (wth t i / lN (t 4 i)) (whM t i).2 then (nI i, wth t i / lN (t 4 i)) else whM t i := if_neg q
        have dv : (if (1 : Int32) < nI (t 4 i) then nI (t 4 i) else 1).toInt64 = lN (t 4 i) := by
          by_cases y : t 4 i = 1
          · rw [y]; rfl
          · rw [if_pos (show (1 : Int32) < nI (t 4 i) from (nI_lt (show 1 < t 4 i by omega) (by omega) : nI 1 < nI (t 4 i))), nI_l (by omega)]
        unfold f_X4_worthiest_30 f_X4_worthiest_97 f_X4_worthiest_104
        rw [x_houses gs, e1, if_neg (nI_ge hi (by omega)), mj_ck_t (bb_5 (by omega)), nI_clamp (by omega), x_steps gs hi, if_neg (show ¬ 2 ≤ nI (t 7 i) from (nI_ge (show t 7 i < 2 by omega) (by omega) : ¬ nI 2 ≤ nI (t 7 i))), d1, bind_some', mj_ck_t (bb_4 (by omega)), x_cost g3 hi, dv, mj_ck_t (decide_eq_true (lN_ne0 c1 (by omega))), mw_eq, show YM t (t 7) - YM t (inc (t 7) i) = wth t i from rfl, u1, u2, wm, nI_succ]
        simp only [mw_eq]
        by_cases y1 : (whM t i).1 = -1
        · rw [if_pos y1, if_pos (Or.inl y1)]
        · rw [if_neg y1]
          by_cases y2 : 0 < lg_cmp (wth t i / lN (t 4 i)) (whM t i).2
          · rw [if_neg (fun z => (le0n _).mp z y2), if_pos (Or.inr y2)]
          · rw [if_pos ((le0n _).mpr y2), if_neg (fun z => z.elim y1 y2)])
    (fun s ⟨e1, _, e3, _⟩ k => by
      have gs := Pd_c hG g e3
      unfold f_X4_worthiest_30
      rw [x_houses gs, e1, if_pos (nI_le (by omega) (by omega))])
  exact ⟨s.2.2.2, by rw [r5, ← r2], r3⟩
theorem which9 {m : mj_m} {t : aT} {u : Nat → Int32} (hG : Good t) (g : Rep (mg m) t u) {N : Nat} (hN : 1100 ≤ N) : ∃ m', f_X9_which N m = some ((whM t (t 13 1)).1, m') ∧ m'.1 = m.1 ∧ (∀ A K, A ≠ 121 → A ≠ 122 → m'.2 A K = m.2 A K) := by
  have gh := GH hG
  obtain ⟨m1, b1, b2, b3, b4⟩ := worthsY9 hG g hN
  unfold f_X9_which
  rw [b1, bind_some']
  obtain ⟨s, ⟨-, r2, r3, r4⟩, r5⟩ := lp_cnt (B := f_X9_which_13 N) (E := fun s => some (s.1, s.2.2.2)) (c := t 13 1) (N := N) (s0 := ((-1 : Int32), 0, 0, m1)) (fun i s => s.2.2.1 = nI i ∧ (s.1, s.2.1) = whM t i ∧ s.2.2.2.1 = m.1 ∧ (∀ A K, A ≠ 121 → s.2.2.2.2 A K = m1.2 A K)) (by omega)
    ⟨rfl, rfl, b3, fun _ _ _ => rfl⟩
    (fun i s hi ⟨e1, e2, e3, e4⟩ => by
      have gs : Rep (mg s.2.2.2) t u := RT_m hG g (fun a k _ => by rw [e3])
      have ws : WZ s.2.2.2 t := WZ_c (fun _ _ => rfl) (fun j => e4 122 j (by omega)) b2
      have sl := st_le hG hi
      obtain ⟨c1, c2⟩ := (hG.2.1 i hi).2.2.2.2.1
      have u1 : s.1 = (whM t i).1 := by rw [← e2]
      have u2 : s.2.1 = (whM t i).2 := by rw [← e2]
      by_cases q : t 7 i = 2
      · refine ⟨(s.1, s.2.1, nI (i + 1), s.2.2.2), ⟨rfl, e2.trans (if_pos q : whM t (i + 1) = _).symm, e3, e4⟩, fun k => ?_⟩
        unfold f_X9_which_13 f_X9_which_74
        rw [y_houses gs, e1, if_neg (nI_ge hi (by omega)), mj_ck_t (bb_108 (by omega)), nI_clamp (by omega), y_steps gs hi, q, if_pos (by rfl), mw_eq, nI_succ]
      · obtain ⟨m3, d1, d2, d3⟩ := worthOf9 hG gs ws hi (by omega) hN
        have g3 : Rep (mg m3) t u := RT_m hG gs (fun a k _ => by rw [d2])
        refine ⟨((whM t (i + 1)).1, (whM t (i + 1)).2, nI (i + 1), m3), ⟨rfl, rfl, d2.trans e3, fun A K q => (d3 A K q).trans (e4 A K q)⟩, fun k => ?_⟩
        have wm : whM t (i + 1) = if (whM t i).1 = -1 ∨ 0 < lg_cmp (wth t i / lN (t 4 i)) (whM t i).2 then (nI i, wth t i / lN (t 4 i)) else whM t i := if_neg q
        unfold f_X9_which_13 f_X9_which_68 f_X9_which_74
        rw [y_houses gs, e1, if_neg (nI_ge hi (by omega)), mj_ck_t (bb_108 (by omega)), nI_clamp (by omega), y_steps gs hi, if_neg (ne2 (by omega) q), d1, bind_some', mj_ck_t (bb_105 (by omega)), y_cost g3 hi, nI_l (by omega), mj_ck_t (decide_eq_true (lN_ne0 c1 (by omega))), mw_eq, u1, u2, wm, nI_succ]
        simp only [mw_eq]
        by_cases y1 : (whM t i).1 = -1
        · rw [if_pos y1, if_pos (Or.inl y1)]
        · rw [if_neg y1]
          by_cases y2 : 0 < lg_cmp (wth t i / lN (t 4 i)) (whM t i).2
          · rw [if_pos y2, if_pos (Or.inr y2)]
          · rw [if_neg y2, if_neg (fun z => z.elim y1 y2)])
    (fun s ⟨e1, _, e3, _⟩ k => by
      have gs : Rep (mg s.2.2.2) t u := RT_m hG g (fun a k _ => by rw [e3])
      unfold f_X9_which_13
      rw [y_houses gs, e1, if_pos (nI_le (by omega) (by omega))])
  exact ⟨s.2.2.2, by rw [r5, ← r2], r3, fun A K q1 q2 => (r4 A K q1).trans (b4 A K q2)⟩
theorem ca_which {m : mj_m} (h : Rel m) {N : Nat} (hN : 1100 ≤ N) : Both (f_X8_which N) (f_X9_which N) m := by
  obtain ⟨t, u, h1⟩ := h.1
  obtain ⟨m1, a1, a2⟩ := which8 h1.1 h1.2.1 hN
  have r1 : RT m1 t u := RT_S h1 (Pd_E a2)
  obtain ⟨m2, b1, b2, b3⟩ := which9 h1.1 r1.2.2 hN
  exact ⟨(whM t (t 13 1)).1, m1, m2, by unfold f_X8_which; rw [a1]; rfl, b1, Rel_S h (Eqs_t (Pd_E a2) (Eq_M b2 b3))⟩
/-! narrow -/
def opN (t : aT) (k s : Nat) : Nat → Nat
  | 0 => 1
  | n + 1 => opN t k s n * (if t 5 n = s + 1 then 10 - fN t (t 7) n k else 10)
theorem opN_le (t : aT) (k s : Nat) : ∀ n, opN t k s n ≤ 10 ^ n := by
  intro n
  induction n with
  | zero => exact Nat.le_refl _
  | succ n ih =>
    rw [Nat.pow_succ]
    exact Nat.mul_le_mul ih (by split <;> omega)
def nmN (t : aT) (k : Nat) : Nat → Int32 × Nat
  | 0 => (-1, 0)
  | s + 1 => if (nmN t k s).1 = -1 ∨ opN t k s (t 13 1) < (nmN t k s).2 then (nI s, opN t k s (t 13 1)) else nmN t k s
theorem nmN_le (t : aT) (k s : Nat) : (nmN t k s).2 ≤ 10 ^ t 13 1 := by
  induction s with
  | zero => exact Nat.zero_le _
  | succ s ih =>
    unfold nmN
    split
    · exact opN_le t k s _
    · exact ih
theorem lNb {n : Nat} (h : n ≤ 10 ^ 10) : (lN n).toInt = (n : Int) := lg_ofNat_toInt (by omega)
theorem lNc {a b : Nat} (ha : a ≤ 10 ^ 10) (hb : b ≤ 10 ^ 10) : lg_cmp (lN a) (lN b) = if b < a then 1 else if a = b then 0 else -1 := by
  unfold lg_cmp
  have e1 : (lN a > lN b) ↔ b < a := by
    show lN b < lN a ↔ _
    rw [Int64.lt_iff_toInt_lt, lNb ha, lNb hb]; omega
  have e2 : (lN a = lN b) ↔ a = b := by
    rw [← Int64.toInt_inj, lNb ha, lNb hb]; omega
  simp only [e1, e2]
theorem fr_eq {a s : Nat} (ha : a < 1000) (hs : s < 1000) : nI a - 1 = nI s ↔ a = s + 1 := by
  rw [← Int32.toInt_inj, p_toInt ha, nI_toInt (by omega)]; omega
theorem open8 {m : mj_m} {t : aT} {u : Nat → Int32} (hG : Good t) (g : Rep (cg m 1 8) t u) {k s : Nat} (hk : k < t 13 2) (hs : s < t 13 0) {N : Nat} (hN : 1100 ≤ N) : f_X2_openOdds N (nI s) (nI k) m = some (lN (opN t k s (t 13 1))) := by
  have gh := GH hG
  have gS := GS hG
  unfold f_X2_openOdds
  refine lp_for (fun i => (lN (opN t k s i), nI i)) (c := t 13 1) (by omega) (fun i hi k' => ?_) (fun k' => ?_)
  · have w5 := (hG.2.1 i hi).2.2.2.2.2.1
    have z := fN_le t (t 7) i k
    show _ = k' (lN (opN t k s i * (if t 5 i = s + 1 then 10 - fN t (t 7) i k else 10)), nI (i + 1))
    unfold f_X2_openOdds_5 f_X2_openOdds_62
    dsimp only
    rw [x_houses g, if_neg (nI_ge hi (by omega)), mj_ck_t (bb_4 (by omega)), nI_clamp (by omega), x_front g hi, tenths8 hG g (St5 hG g) hi hk, bind_some', ten_sub z, nI_l (by omega), mw_eq, mw_eq, mw_eq, mw_eq, ← lN_mul, nI_succ]
    by_cases y : t 5 i = s + 1
    · rw [if_pos ((fr_eq (by omega) (by omega)).mpr y), if_pos y]
    · rw [if_neg (fun z => y ((fr_eq (by omega) (by omega)).mp z)), if_neg y]; rfl
  · unfold f_X2_openOdds_5
    dsimp only
    rw [x_houses g, if_pos (nI_le (by omega) (by omega))]
theorem pw10 {t : aT} (hG : Good t) : 10 ^ t 13 1 ≤ 10 ^ 10 := Nat.pow_le_pow_right (by decide) (GH hG)
theorem narrow8 {m : mj_m} {t : aT} {u : Nat → Int32} (hG : Good t) (g : Rep (cg m 1 8) t u) {k : Nat} (hk : k < t 13 2) {N : Nat} (hN : 1100 ≤ N) : f_X2_narrowest N (nI k) m = some (nmN t k (t 13 0)).1 := by
  have gS := GS hG
  have pw := pw10 hG
  unfold f_X2_narrowest
  obtain ⟨s, ⟨-, r2, -⟩, r5⟩ := lp_cnt (B := f_X2_narrowest_7 N (nI k) m) (E := fun s => some s.1) (c := t 13 0) (N := N) (s0 := ((-1 : Int32), 0, 0)) (fun i s => s.2.2 = nI i ∧ s.1 = (nmN t k i).1 ∧ s.2.1 = lN (nmN t k i).2) (by omega)
    ⟨rfl, rfl, rfl⟩
    (fun i s hi ⟨e1, e2, e3⟩ => by
      have o1 := opN_le t k i (t 13 1)
      have o2 := nmN_le t k i
      refine ⟨((nmN t k (i + 1)).1, lN (nmN t k (i + 1)).2, nI (i + 1)), ⟨rfl, rfl, rfl⟩, fun k' => ?_⟩
      have wm : nmN t k (i + 1) = if (nmN t k i).1 = -1 ∨ opN t k i (t 13 1) < (nmN t k i).2 then (nI i, opN t k i (t 13 1)) else nmN t k i := rfl
      unfold f_X2_narrowest_7 f_X2_narrowest_40 f_X2_narrowest_46
      rw [x_streets g, e1, if_neg (nI_ge hi (by omega)), open8 hG g hk hi hN, bind_some', e2, e3, wm, lNc (by omega) (by omega), nI_succ]
      simp only [mw_eq]
      by_cases y1 : (nmN t k i).1 = -1
      · rw [if_pos y1, if_pos (Or.inl y1)]
      · rw [if_neg y1]
        by_cases y2 : opN t k i (t 13 1) < (nmN t k i).2
        · rw [if_pos (show _ ∨ _ from Or.inr y2), if_neg (show ¬ (nmN t k i).2 < opN t k i (t 13 1) by omega), if_neg (show ¬ opN t k i (t 13 1) = (nmN t k i).2 by omega), if_neg (by decide)]
        · rw [if_neg (show ¬ (_ ∨ _) from fun z => z.elim y1 y2), if_pos]
          split
          · decide
          · rw [if_pos (by omega)]; decide)
    (fun s ⟨e1, _, _⟩ k' => by
      unfold f_X2_narrowest_7
      rw [x_streets g, e1, if_pos (nI_le (by omega) (by omega))])
  rw [r5, r2]
theorem narrow9 {m : mj_m} {t : aT} {u : Nat → Int32} (hG : Good t) (g : Rep (mg m) t u) {k : Nat} (hk : k < t 13 2) {N : Nat} (hN : 1100 ≤ N) : mj_lp N (f_X9_narrow_21 N (nI k) m) ((-1 : Int32), 0, 0) = some ((nmN t k (t 13 0)).1, m) := by
  have gS := GS hG
  have gh := GH hG
  have pw := pw10 hG
  obtain ⟨s, ⟨-, r2, -⟩, r5⟩ := lp_cnt (B := f_X9_narrow_21 N (nI k) m) (E := fun s => some (s.1, m)) (c := t 13 0) (N := N) (s0 := ((-1 : Int32), 0, 0)) (fun i s => s.2.2 = nI i ∧ s.1 = (nmN t k i).1 ∧ (s.1 = -1 ∨ s.2.1 = lN (10 ^ t 13 1 - (nmN t k i).2))) (by omega)
    ⟨rfl, rfl, Or.inl rfl⟩
    (fun i s hi ⟨e1, e2, e3⟩ => by
      have o1 := opN_le t k i (t 13 1)
      have o2 := nmN_le t k i
      have wm : nmN t k (i + 1) = if (nmN t k i).1 = -1 ∨ opN t k i (t 13 1) < (nmN t k i).2 then (nI i, opN t k i (t 13 1)) else nmN t k i := rfl
      have inner : ∀ k' : Int32 × Int64 × Int32 → Option (Int32 × mj_m), mj_lp N (f_X9_narrow_39 N k' (nI k) s.1 s.2.1 (nI i) m) (1, 1, 0) = if s.1 = -1 ∨ 0 < lg_cmp (lN (10 ^ t 13 1) - lN (opN t k i (t 13 1))) s.2.1 then k' (nI i, lN (10 ^ t 13 1) - lN (opN t k i (t 13 1)), nI (i + 1)) else k' (s.1, s.2.1, nI (i + 1)) := by
        intro k'
        refine lp_for (fun j => (lN (opN t k i j), lN (10 ^ j), nI j)) (c := t 13 1) (by omega) (fun j hj k2 => ?_) (fun k2 => ?_)
        · have w5 := (hG.2.1 j hj).2.2.2.2.2.1
          have z := fN_le t (t 7) j k
          show _ = k2 (lN (opN t k i j * (if t 5 j = i + 1 then 10 - fN t (t 7) j k else 10)), lN (10 ^ (j + 1)), nI (j + 1))
          unfold f_X9_narrow_39 f_X9_narrow_79
          dsimp only
          rw [y_houses g, if_neg (nI_ge hj (by omega)), mj_ck_t (bb_106 (by omega)), nI_clamp (by omega), y_front g hj, falls9 hG g (St9 hG g) hj hk, bind_some', ten_sub z, nI_l (by omega), mw_eq, mw_eq, mw_eq, mw_eq, mw_eq, mw_eq, ← lN_mul, Nat.pow_succ, ← lN_mul, nI_succ]
          by_cases y : t 5 j = i + 1
          · rw [if_pos ((fr_eq (by omega) (by omega)).mpr y), if_pos y]; rfl
          · rw [if_neg (fun z => y ((fr_eq (by omega) (by omega)).mp z)), if_neg y]; rfl
        · unfold f_X9_narrow_39 f_X9_narrow_114 f_X9_narrow_123
          dsimp only
          rw [y_houses g, if_pos (nI_le (by omega) (by omega)), nI_succ]
          simp only [mw_eq]
          by_cases y1 : s.1 = -1
          · rw [if_pos y1, if_pos (Or.inl y1)]
          · rw [if_neg y1]
            by_cases y2 : 0 < lg_cmp (lN (10 ^ t 13 1) - lN (opN t k i (t 13 1))) s.2.1
            · rw [if_pos y2, if_pos (Or.inr y2)]
            · rw [if_neg y2, if_neg (fun z => z.elim y1 y2)]
      by_cases y : (nmN t k i).1 = -1 ∨ opN t k i (t 13 1) < (nmN t k i).2
      · refine ⟨(nI i, lN (10 ^ t 13 1) - lN (opN t k i (t 13 1)), nI (i + 1)), ⟨rfl, ?_, Or.inr ?_⟩, fun k' => ?_⟩
        · rw [wm, if_pos y]
        · rw [wm, if_pos y, lN_sub o1]
        · unfold f_X9_narrow_21
          rw [y_streets g, e1, if_neg (nI_ge hi (by omega)), inner, if_pos]
          rcases y with y | y
          · exact Or.inl (e2.trans y)
          · rcases e3 with e3 | e3
            · exact Or.inl e3
            · refine Or.inr ?_
              rw [e3, lN_sub o1, lNc (by omega) (by omega), if_pos (by omega)]; decide
      · refine ⟨(s.1, s.2.1, nI (i + 1)), ⟨rfl, ?_, ?_⟩, fun k' => ?_⟩
        · rw [wm, if_neg y]; exact e2
        · rw [wm, if_neg y]; exact e3
        · unfold f_X9_narrow_21
          rw [y_streets g, e1, if_neg (nI_ge hi (by omega)), inner, if_neg]
          intro z
          rcases z with z | z
          · exact y (Or.inl (e2.symm.trans z))
          · rcases e3 with e3 | e3
            · exact y (Or.inl (e2.symm.trans e3))
            · rw [e3, lN_sub o1, lNc (by omega) (by omega), if_neg (by omega)] at z
              split at z
              · exact absurd z (by decide)
              · exact absurd z (by decide))
    (fun s ⟨e1, _, _⟩ k' => by
      unfold f_X9_narrow_21
      rw [y_streets g, e1, if_pos (nI_le (by omega) (by omega))])
  rw [r5, r2]
theorem ca_narrow {m : mj_m} (h : Rel m) {N : Nat} (hN : 1100 ≤ N) (v : Int32) : Both (f_X8_narrow N v) (f_X9_narrow N v) m := by
  obtain ⟨t, u, h1⟩ := h.1
  rcases isK8 h1 N v with ⟨a1, a2⟩ | ⟨k, hk, rfl, a1⟩
  · refine ⟨-11, rfu m 1, _, ?_, ?_, Rel_rf h 1⟩
    · unfold f_X8_narrow; rw [a1, bind_some', if_pos rfl, rb8_1]; rfl
    · unfold f_X9_narrow; rw [isK9_n (RT_rfu h1 1) N a2, bind_some', if_pos rfl, rb9_1]; rfl
  · refine ⟨(nmN t k (t 13 0)).1, m, m, ?_, ?_, h⟩
    · unfold f_X8_narrow; rw [a1, bind_some', if_neg (by decide), narrow8 h1.1 h1.2.1 hk hN]; rfl
    · unfold f_X9_narrow; rw [isK9' h1 N hk, bind_some', if_neg (by decide), narrow9 h1.1 h1.2.2 hk hN]
