/-! THE CALLS, further: set, row, copy, rule -/
def wsL (m : mj_m) (a b : Nat) (g : Nat → Int64) : Nat → mj_m
  | 0 => m
  | n + 1 => mj_wL (wsL m a b g n) a (b + n) (g n)
theorem wsL_1 (m : mj_m) (a b : Nat) (g : Nat → Int64) (n : Nat) : (wsL m a b g n).1 = m.1 := by
  induction n with
  | zero => rfl
  | succ n ih => exact ih
theorem wsL_2 (m : mj_m) (a b : Nat) (g : Nat → Int64) (n A K : Nat) : (wsL m a b g n).2 A K = if A = a ∧ b ≤ K ∧ K < b + n then g (K - b) else m.2 A K := by
  induction n with
  | zero => rw [if_neg (by omega)]; rfl
  | succ n ih =>
    show (mj_wL (wsL m a b g n) a (b + n) (g n)).2 A K = _
    rw [wL_2, up_at]
    by_cases q : A = a ∧ K = b + n
    · rw [if_pos q, if_pos (by omega), q.2, show b + n - b = n by omega]
    · rw [if_neg q, ih]
      by_cases r : A = a ∧ b ≤ K ∧ K < b + n
      · rw [if_pos r, if_pos (by omega)]
      · rw [if_neg r, if_neg (by omega)]
theorem wL_n {m : mj_m} {a b A B : Nat} {x : Int64} (q : A ≠ a ∨ B ≠ b) : (mj_wL m a b x).2 A B = m.2 A B := by rw [wL_2, up_at, if_neg (by omega)]
theorem wL_e {m : mj_m} {a b : Nat} {x : Int64} : (mj_wL m a b x).2 a b = x := by rw [wL_2, up_at, if_pos ⟨rfl, rfl⟩]
theorem fill8 {s : Nat} (hs : s < 8) {N : Nat} (hN : 200 ≤ N) (m : mj_m) : f_J7_fill_d0a16 N (79 + 2 * s + 1) 0 m = some (wsL m (80 + 2 * s) 0 (fun _ => 0) 120) := by
  have e : mj_sh (79 + 2 * s + 1) = (1, 120) := by
    rcases (by omega : s = 0 ∨ s = 1 ∨ s = 2 ∨ s = 3 ∨ s = 4 ∨ s = 5 ∨ s = 6 ∨ s = 7) with rfl | rfl | rfl | rfl | rfl | rfl | rfl | rfl <;> rfl
  unfold f_J7_fill_d0a16
  have ar : mj_ar 1 (79 + 2 * s + 1) = true := by
    unfold mj_ar; rw [e]; simp; omega
  rw [mj_ck_t ar, mw_eq, e]
  refine lp_for (fun i => (nI i, wsL m (80 + 2 * s) 0 (fun _ => 0) i)) (c := 120) (by omega) (fun i hi k => ?_) (fun k => ?_)
  · show (if nI 120 ≤ nI i then _ else _) = _
    rw [if_neg (nI_ge hi (by omega)), mj_ck_t (bS hs hi), nI_clamp (by omega), mw_eq, mw_eq, ← nI_succ]
    show k (nI (i + 1), mj_wL (wsL m (80 + 2 * s) 0 (fun _ => 0) i) (79 + 2 * s + 1) i 0) = k (nI (i + 1), mj_wL (wsL m (80 + 2 * s) 0 (fun _ => 0) i) (80 + 2 * s) (0 + i) 0)
    rw [show 79 + 2 * s + 1 = 80 + 2 * s by omega, Nat.zero_add]
  · show (if nI 120 ≤ nI 120 then _ else _) = _
    rw [if_pos (nI_le (by omega) (by omega))]
theorem fill9 {s : Nat} (hs : s < 8) {N : Nat} (hN : 200 ≤ N) (m : mj_m) : mj_lp N (f_X9_row_78 N (nI s)) (0, m) = some (1, wsL m 115 (120 * s) (fun _ => 0) 120) := by
  refine lp_for (fun i => (nI i, wsL m 115 (120 * s) (fun _ => 0) i)) (c := 120) (by omega) (fun i hi k => ?_) (fun k => ?_)
  · show (if 120 ≤ nI i then _ else _) = _
    rw [if_neg (show ¬ 120 ≤ nI i from (nI_ge hi (by omega) : ¬ nI 120 ≤ nI i)), at9, mj_ck_t (bb_115 (by omega)), nI_clamp (by omega), mw_eq, mw_eq, ← nI_succ]
    rfl
  · show (if nI 120 ≤ nI 120 then _ else _) = _
    rw [if_pos (nI_le (by omega) (by omega))]
theorem ca_row {m : mj_m} (h : Rel m) {N : Nat} (hN : 200 ≤ N) (v o n : Int32) : Both (f_X8_row N v o n) (f_X9_row N v o n) m := by
  rcases isSh N v m with a | ⟨s, hs, rfl, a⟩
  · refine ⟨-1, rfu m 1, _, ?_, ?_, Rel_rf h 1⟩
    · unfold f_X8_row; rw [a, bind_some', if_pos rfl, rf8_1]; rfl
    · unfold f_X9_row; rw [isSh9 N v m, a, bind_some', if_pos rfl, rf9_1]; rfl
  by_cases q1 : 0 ≤ n
  rotate_left
  · refine ⟨-4, rfu m 4, _, ?_, ?_, Rel_rf h 4⟩
    · unfold f_X8_row; rw [a, bind_some', if_neg (by decide), if_neg q1, rf8_4]; rfl
    · unfold f_X9_row; rw [isSh9 N _ m, a, bind_some', if_neg (by decide), if_neg q1, rf9_4]; rfl
  by_cases q2 : ¬ o < 0 ∧ o ≤ 3
  rotate_left
  · refine ⟨-6, rfu m 6, _, ?_, ?_, Rel_rf h 6⟩
    · have z : f_X8_row_32 N m = some (-6, rfu m 6) := by unfold f_X8_row_32; rw [rf8_6]; rfl
      unfold f_X8_row
      rw [a, bind_some', if_neg (by decide), if_pos q1, z]
      by_cases r : o < 0
      · rw [if_pos r]
      · rw [if_neg r, if_neg (fun y => q2 ⟨r, y⟩)]
    · have z : f_X9_row_34 N (rfu m 6) = some (-6, rfm (rfu m 6) 6) := by unfold f_X9_row_34; rw [rf9_6]; rfl
      unfold f_X9_row
      rw [isSh9 N _ m, a, bind_some', if_neg (by decide), if_pos q1, z]
      by_cases r : o < 0
      · rw [if_pos r]
      · rw [if_neg r, if_neg (fun y => q2 ⟨r, y⟩)]
  by_cases q3 : n ≤ 120
  rotate_left
  · refine ⟨-7, rfu m 7, _, ?_, ?_, Rel_rf h 7⟩
    · unfold f_X8_row; rw [a, bind_some', if_neg (by decide), if_pos q1, if_neg q2.1, if_pos q2.2, if_neg q3, rf8_7]; rfl
    · unfold f_X9_row; rw [isSh9 N _ m, a, bind_some', if_neg (by decide), if_pos q1, if_neg q2.1, if_pos q2.2, if_neg q3, rf9_7]; rfl
  have q4 : ¬ n < 0 := fun z => by
    rw [Int32.le_iff_toInt_le] at q1; rw [Int32.lt_iff_toInt_lt] at z; omega
  obtain ⟨o, ho, rfl⟩ := nI_of2 (n := 3) (M := 3) (by decide) q2.1 q2.2
  obtain ⟨n, hn, rfl⟩ := nI_of2 (n := 120) (M := 120) (by decide) q4 q3
  refine ⟨1, wsL (mj_wI (mj_wI m (79 + 2 * s) 1 (nI (100 + o))) (79 + 2 * s) 2 (nI n)) (80 + 2 * s) 0 (fun _ => 0) 120, wsL (mj_wI (mj_wI (mj_wI (wsL (mj_wI (mj_wI m (79 + 2 * s) 1 (nI (100 + o))) (79 + 2 * s) 2 (nI n)) (80 + 2 * s) 0 (fun _ => 0) 120) 110 s 1) 111 s (nI o)) 112 s (nI n)) 115 (120 * s) (fun _ => 0) 120, ?_, ?_, Rel_sh (s0 := s) h (fun b k z1 z2 => ?_) (fun b k z1 z2 z3 => ?_) hs (shRow (o := o) (n := n) ⟨by omega, hn, ?_, ?_, ?_, ?_, ?_, fun i hi => ?_⟩)⟩
  · unfold f_X8_row f_X6_holdRow
    rw [a, bind_some', if_neg (by decide), if_pos q1, if_neg q2.1, if_pos q2.2, if_pos q3, mj_ck_t (bb_35 hs), nI_clamp (by omega), mj_ck_t (o6 hs), mw_eq, mw_eq, fill8 hs hN, show (100 : Int32) + nI o = nI (100 + o) from nI_add 100 o]; rfl
  · unfold f_X9_row
    rw [isSh9 N _ m, a, bind_some', if_neg (by decide), if_pos q1, if_neg q2.1, if_pos q2.2, if_pos q3, mj_ck_t (bb_110 hs), mw_eq, mj_ck_t (bb_111 hs), mw_eq, mj_ck_t (bb_112 hs), mw_eq, nI_clamp (by omega)]
    exact fill9 hs hN _
  · have zz : ¬ (b = 79 + 2 * s) ∧ ¬ (110 ≤ b ∧ b ≤ 114 ∧ k = s) := by omega
    rw [wsL_1, wI_n (by omega), wI_n (by omega), wI_n (by omega), wsL_1, wI_n (by omega), wI_n (by omega)]
  · rw [wsL_2, if_neg (by omega)]
    rw [wI_2, wI_2, wI_2, wsL_2, if_neg (by omega)]; rfl
  · rw [wsL_1, wI_n (by omega), wI_n (by omega), wI_e]
  · rw [wsL_1, wI_n (by omega), wI_e]
  · rw [wsL_1, wI_e]
  · rw [wsL_1, wI_n (by omega), wI_n (by omega), wI_n (by omega), wsL_1, wI_n (by omega), wI_e]
  · rw [wsL_1, wI_n (by omega), wI_n (by omega), wI_n (by omega), wsL_1, wI_e]
  · rw [wsL_2, if_neg (by omega), wsL_2, if_pos (by omega)]
    rw [wI_2, wI_2, wI_2, wsL_2, if_pos (by omega)]
/-- what a sort keeps of a value -/
def cvL (o : Nat) (v : Int64) : Int64 := if o = 0 then v.toInt32.toInt8.toInt32.toInt64 else if o = 1 then v.toInt32.toInt16.toInt32.toInt64 else if o = 2 then v.toInt32.toInt64 else v
theorem ca_set {m : mj_m} (h : Rel m) (N : Nat) (v w : Int32) (x : Int64) : Both (f_X8_set N v w x) (f_X9_set N v w x) m := by
  have h5 := h.2.2.2.2.1
  rcases lk_row h5 N v with ⟨r, r1, r2, b1, b2⟩ | ⟨s, o, n, hs, rfl, b, b1, b2⟩
  · refine ⟨-(nI r), rfu m r, rfm (rfu m r) r, ?_, ?_, Rel_rf h r⟩
    · unfold f_X8_set; rw [b1, bind_some', if_neg (rn0 r1 (by omega)).1, rf8_g r1 (by omega)]; rfl
    · have w9 := b2 (rfu m r) (rfu110 m r)
      have p9 := rf9_g r1 (by omega) N (rfu m r)
      unfold f_X9_wants at w9
      unfold f_X9_set
      rcases isSh N v m with a | ⟨s, hs, rfl, a⟩
      · rw [isSh9 N v m, a, bind_some', if_pos rfl] at w9 ⊢
        rw [Option.some.inj w9, p9]; rfl
      · rw [isSh9 N _ m, a, bind_some', if_neg (by decide), mj_ck_t (bb_110 hs)] at w9 ⊢
        by_cases y1 : (rfu m r).1 110 (nI s).toNatClampNeg = 2
        · rw [if_pos (by rw [y1]; decide)] at w9
          rw [if_pos y1, Option.some.inj w9, p9]; rfl
        · rw [if_neg (by rw [show (3 : Int32) - 1 = 2 by decide]; exact y1)] at w9
          by_cases y2 : (rfu m r).1 110 (nI s).toNatClampNeg = 0
          · rw [if_pos y2] at w9
            rw [if_neg y1, if_pos y2, Option.some.inj w9, p9]; rfl
          · rw [if_neg y2] at w9
            exact absurd (Option.some.inj w9).symm (rn0 r1 (by omega)).2
  obtain ⟨ho, hn, c1, c2, c3, c4, c5, c6⟩ := b
  have a : f_X8_isShelf N (nI s) m = some 1 := by
    rcases isSh N (nI s) m with a | ⟨_, _, _, a⟩
    · unfold f_X8_lacksRow at b1; rw [a] at b1; exact absurd (Option.some.inj b1) (by decide)
    · exact a
  have q8 : f_X8_set N (nI s) w x m = (f_X6_has N (79 + 2 * s) w m).bind (fun r4 => if r4 = 0 then ((f_X8_refuse N 5 m).bind (fun r6 => some (r6.1, r6.2))) else ((f_X6_put N (79 + 2 * s) w x m).bind (fun r6 => some (1, r6)))) := by
    unfold f_X8_set; rw [b1, bind_some', if_pos rfl, mj_ck_t (bb_35 hs), nI_clamp (by omega)]
  have q9 : ∀ m' : mj_m, m'.1 110 s = 1 → m'.1 112 s = nI n → m'.1 111 s = nI o → f_X9_set N (nI s) w x m' = if w < 0 then f_X9_set_61 N m' else if w < nI n then f_X9_set_128 N (120 * nI s + w) (cvL o x) m' else f_X9_set_61 N m' := by
    intro m' d1 d2 d3
    unfold f_X9_set
    rw [isSh9 N _ m, a, bind_some', if_neg (by decide), mj_ck_t (bb_110 hs), mj_ck_t (bb_111 hs), mj_ck_t (bb_112 hs), nI_clamp (by omega), d1, d2, d3, if_neg (by decide), if_neg (by decide)]
    rcases (by omega : o = 0 ∨ o = 1 ∨ o = 2 ∨ o = 3) with rfl | rfl | rfl | rfl <;> rfl
  rcases has8 hs c5 hn N w with ⟨d1, d2, -⟩ | ⟨j, hj, rfl, d1⟩
  · refine ⟨-5, rfu m 5, _, ?_, ?_, Rel_rf h 5⟩
    · rw [q8, d1, bind_some', if_pos rfl, rf8_5]; rfl
    · have z : f_X9_set_61 N (rfu m 5) = some (-5, rfm (rfu m 5) 5) := by unfold f_X9_set_61; rw [rf9_5]; rfl
      rw [q9 _ ((rfu110 m 5 s hs).trans c1) (by unfold rfu; rw [wI_n (by omega)]; exact c3) (by unfold rfu; rw [wI_n (by omega)]; exact c2), z]
      rcases d2 with d2 | d2
      · rw [if_pos d2]
      · by_cases y : w < 0
        · rw [if_pos y]
        · rw [if_neg y, if_neg]
          intro y2
          rw [Int32.le_iff_toInt_le] at d2; rw [Int32.lt_iff_toInt_lt] at y2; omega
  · have e8 : f_X6_put N (79 + 2 * s) (nI j) x m = some (mj_wL m (80 + 2 * s) j (cvL o x)) := by
      unfold f_X6_put
      rw [d1, bind_some', mj_ck_t (o6 hs), if_neg (by decide), c4, nI_clamp (by omega), show nI (100 + o) - 100 = nI o from by rw [show 100 + o = o + 100 by omega, ← nI_add]; exact Int32.add_sub_cancel _ _, show 79 + 2 * s + 1 = 80 + 2 * s by omega]
      have k1 : mj_b 1 (80 + 2 * s) (nI j) = true := by rw [show 80 + 2 * s = 79 + 2 * s + 1 by omega]; exact bS hs (by omega)
      simp only [mj_ck_t k1]
      rcases (by omega : o = 0 ∨ o = 1 ∨ o = 2 ∨ o = 3) with rfl | rfl | rfl | rfl <;> rfl
    refine ⟨1, mj_wL m (80 + 2 * s) j (cvL o x), mj_wL (mj_wL m (80 + 2 * s) j (cvL o x)) 115 (120 * s + j) (cvL o x), ?_, ?_, Rel_sh (s0 := s) h (fun b k z1 z2 => rfl) (fun b k z1 z2 z3 => ?_) hs (shRow (o := o) (n := n) ⟨ho, hn, c1, c2, c3, c4, c5, fun i hi => ?_⟩)⟩
    · rw [q8, d1, bind_some', if_neg (by decide), e8]; rfl
    · rw [q9 (mj_wL m (80 + 2 * s) j (cvL o x)) c1 c3 c2, if_neg (nI_pos (by omega)), if_pos (nI_lt hj (by omega))]
      unfold f_X9_set_128
      rw [at9, mj_ck_t (bb_115 (by omega)), nI_clamp (by omega)]; rfl
    · rw [wL_n (by omega), wL_n (by omega)]
    · by_cases y : i = j
      · rw [y, wL_e, wL_n (by omega), wL_e]
      · rw [wL_n (by omega), wL_n (by omega), wL_n (by omega), wL_n (by omega)]; exact c6 i hi
