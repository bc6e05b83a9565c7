/-! THE CALLS, further: rule -/
theorem told8 {s a n : Nat} (hs : s < 8) (ha : a < 8) {m : mj_m} (hz : m.1 (79 + 2 * a) 2 = nI n) (hn : n ≤ 120) (v2 : Int32) {N : Nat} (hN : 200 ≤ N) : f_X6_holdTold N (79 + 2 * s) (79 + 2 * a) v2 m = some (mj_wI (mj_wI (mj_wI (wsL m (80 + 2 * s) 0 (fun k => (m.2 (80 + 2 * a) k).toInt32.toInt64) n) (79 + 2 * s) 2 (nI n)) (79 + 2 * s) 1 6) (79 + 2 * s) 3 v2) := by
  unfold f_X6_holdTold
  refine lp_for (fun i => (nI i, wsL m (80 + 2 * s) 0 (fun k => (m.2 (80 + 2 * a) k).toInt32.toInt64) i)) (c := n) (by omega) (fun i hi k => ?_) (fun k => ?_)
  · have hz' : (wsL m (80 + 2 * s) 0 (fun k => (m.2 (80 + 2 * a) k).toInt32.toInt64) i).1 (79 + 2 * a) 2 = nI n := by rw [wsL_1]; exact hz
    unfold f_X6_holdTold_2
    dsimp only
    rw [mj_ck_t (o6 ha), hz', if_neg (nI_ge hi (by omega)), mj_ck_t (o6 hs), as8 ha hz' hn hi, bind_some', mj_ck_t (bS hs (by omega)), nI_clamp (by omega), mw_eq, mw_eq, wsL_2, if_neg (by omega), ← nI_succ, show 79 + 2 * s + 1 = 80 + 2 * s by omega]
    show k (nI (i + 1), mj_wL (wsL m (80 + 2 * s) 0 _ i) (80 + 2 * s) i _) = k (nI (i + 1), mj_wL (wsL m (80 + 2 * s) 0 _ i) (80 + 2 * s) (0 + i) _)
    rw [Nat.zero_add]
  · have hz' : (wsL m (80 + 2 * s) 0 (fun k => (m.2 (80 + 2 * a) k).toInt32.toInt64) n).1 (79 + 2 * a) 2 = nI n := by rw [wsL_1]; exact hz
    unfold f_X6_holdTold_2
    dsimp only
    rw [mj_ck_t (o6 ha), hz', if_pos (nI_le (by omega) (by omega)), mj_ck_t (o6 hs)]; rfl
theorem rule141 {s : Nat} (hs : s < 8) (N : Nat) (k x : Int32) (m : mj_m) : f_X9_rule_141 N (nI s) k x m = some (1, mj_wI (mj_wI (mj_wI m 110 s 2) 113 s k) 114 s x) := by
  unfold f_X9_rule_141
  rw [mj_ck_t (bb_110 hs), mw_eq, mj_ck_t (bb_113 hs), mw_eq, mj_ck_t (bb_114 hs), mw_eq, nI_clamp (by omega)]
theorem told9 {s a n : Nat} (hs : s < 8) (ha : a < 8) (hn : n ≤ 120) (m : mj_m) {N : Nat} (hN : 200 ≤ N) : mj_lp N (f_X9_rule_76 N (nI s) 6 (nI a) (nI n)) (0, m) = some (1, mj_wI (mj_wI (mj_wI (mj_wI (wsL m 115 (120 * s) (fun k => m.2 115 (120 * a + k)) n) 112 s (nI n)) 110 s 2) 113 s 6) 114 s (nI a)) := by
  refine lp_for (fun i => (nI i, wsL m 115 (120 * s) (fun k => m.2 115 (120 * a + k)) i)) (c := n) (by omega) (fun i hi k => ?_) (fun k => ?_)
  · unfold f_X9_rule_76
    dsimp only
    rw [if_neg (nI_ge hi (by omega)), at9, at9, mj_ck_t (bb_115 (by omega)), mj_ck_t (bb_115 (by omega)), nI_clamp (by omega), nI_clamp (by omega), mw_eq, mw_eq, ← nI_succ, wsL_2, if_neg (by omega)]
    rfl
  · unfold f_X9_rule_76
    dsimp only
    rw [if_pos (nI_le (by omega) (by omega)), mj_ck_t (bb_112 hs), mw_eq, nI_clamp (by omega), rule141 hs]
theorem i32_64 (x : Int32) : x.toInt64.toInt32 = x := Int32.toInt32_toInt64 x
theorem ca_rule {m : mj_m} (h : Rel m) {N : Nat} (hN : 200 ≤ N) (v k a : Int32) : Both (f_X8_rule N v k a) (f_X9_rule N v k a) m := by
  have h5 := h.2.2.2.2.1
  have e81 : f_X8_rule_19 N m = some (-1, rfu m 1) := by unfold f_X8_rule_19; rw [rf8_1]; rfl
  have e86 : f_X8_rule_64 N m = some (-6, rfu m 6) := by unfold f_X8_rule_64; rw [rf8_6]; rfl
  have e91 : f_X9_rule_19 N (rfu m 1) = some (-1, rfm (rfu m 1) 1) := by unfold f_X9_rule_19; rw [rf9_1]; rfl
  have e96 : f_X9_rule_134 N (rfu m 6) = some (-6, rfm (rfu m 6) 6) := by unfold f_X9_rule_134; rw [rf9_6]; rfl
  rcases isSh N v m with x | ⟨s, hs, rfl, x⟩
  · refine ⟨-1, rfu m 1, _, ?_, ?_, Rel_rf h 1⟩
    · unfold f_X8_rule; rw [x]; exact e81
    · unfold f_X9_rule; rw [isSh9 N v m, x]; exact e91
  by_cases hk1 : k = -1
  · subst hk1
    refine ⟨0, mj_wI (mj_wI m (79 + 2 * s) 1 (-1)) (79 + 2 * s) 2 0, mj_wI (mj_wI (mj_wI m (79 + 2 * s) 1 (-1)) (79 + 2 * s) 2 0) 110 s 0, ?_, ?_, Rel_sh (s0 := s) h (fun b k z1 z2 => ?_) (fun b k z1 z2 z3 => rfl) hs (shN _ _ ⟨?_, ?_, ?_⟩)⟩
    · unfold f_X8_rule f_X8_rule_25 f_X6_empty; rw [x, bind_some', if_neg (by decide), if_pos rfl, if_pos rfl, mj_ck_t (bb_35 hs), nI_clamp (by omega), mj_ck_t (o6 hs)]; rfl
    · unfold f_X9_rule; rw [isSh9 N _ m, x, bind_some', if_neg (by decide), if_neg (by decide), if_pos (by decide), if_pos rfl, mj_ck_t (bb_110 hs), nI_clamp (by omega)]; rfl
    · rw [wI_n (by omega), wI_n (by omega), wI_n (by omega)]
    · rw [wI_e]
    · rw [wI_n (by omega), wI_n (by omega), wI_e]
    · rw [wI_n (by omega), wI_e]
  by_cases hk : ¬ k < 0 ∧ ¬ 6 < k
  rotate_left
  · refine ⟨-1, rfu m 1, _, ?_, ?_, Rel_rf h 1⟩
    · have z : f_X8_isKind N k m = some 0 := by
        unfold f_X8_isKind f_X8_isKind_14
        by_cases y : k < 0
        · rw [if_pos y]
        · rw [if_neg y, if_pos (Decidable.byContradiction (fun y2 => hk ⟨y, y2⟩))]
      unfold f_X8_rule; rw [x, bind_some', if_neg (by decide), if_neg hk1, z]; exact e81
    · unfold f_X9_rule; rw [isSh9 N _ m, x, bind_some', if_neg (by decide)]
      by_cases y : k < -1
      · rw [if_pos y]; exact e91
      · rw [if_neg y, if_neg]
        · exact e91
        · intro y2
          refine hk ⟨fun y3 => hk1 (Int32.toInt_inj.mp ?_), fun y3 => ?_⟩
          · rw [Int32.lt_iff_toInt_lt] at y y3
            have z1 : (-1 : Int32).toInt = -1 := by decide
            have z2 : (0 : Int32).toInt = 0 := by decide
            omega
          · rw [Int32.le_iff_toInt_le] at y2; rw [Int32.lt_iff_toInt_lt] at y3; omega
  obtain ⟨k, -, hk7, rfl⟩ := mid (a := 0) (b := 6) hk.1 hk.2 (by decide)
  have q8 : f_X8_rule N (nI s) (nI k) a m = f_X8_rule_25 N (nI s) (nI k) a m := by
    have z : f_X8_isKind N (nI k) m = some 1 := by unfold f_X8_isKind; rw [if_neg hk.1, if_neg hk.2]
    unfold f_X8_rule; rw [x, bind_some', if_neg (by decide), if_neg hk1, z, bind_some', if_neg (by decide)]
  have q9 : ∀ m', f_X9_rule N (nI s) (nI k) a m' = (if nI k = 6 then ((f_X9_wants N a 1 m').bind (fun r7 => if r7 = 0 then (mj_ck (mj_b 0 112 a) ( mj_mw (m'.1 112 a.toNatClampNeg) (fun x10 => mj_lp N (f_X9_rule_76 N (nI s) (nI k) a x10) (0, m')))) else ((f_X9_no N r7 m').bind (fun r9 => some (r9.1, r9.2))))) else (if a < 0 then f_X9_rule_134 N m' else (if a ≤ 99 then f_X9_rule_141 N (nI s) (nI k) a m' else f_X9_rule_134 N m'))) := by
    intro m'
    unfold f_X9_rule; rw [isSh9 N _ m, x, bind_some', if_neg (by decide), if_neg, if_pos (show nI k ≤ 6 from (nI_le hk7 (by decide) : nI k ≤ nI 6)), if_neg hk1]
    intro y
    rw [Int32.lt_iff_toInt_lt, nI_toInt (by omega)] at y
    have z1 : (-1 : Int32).toInt = -1 := by decide
    omega
  by_cases h6 : k = 6
  · subst h6
    have p8 : f_X8_rule N (nI s) (nI 6) a m = (f_X8_ruleTold N (nI s) a m).bind (fun r3 => some (r3.1, r3.2)) := by
      rw [q8]; unfold f_X8_rule_25; rw [if_neg hk1, if_pos (show nI 6 = 6 from rfl)]
    rcases lk_row h5 N a with ⟨r, r1, r2, b1, b2⟩ | ⟨a, o, n, ha, rfl, b, b1, b2⟩
    · refine ⟨-(nI r), rfu m r, rfm (rfu m r) r, ?_, ?_, Rel_rf h r⟩
      · rw [p8]; unfold f_X8_ruleTold; rw [b1, bind_some', if_neg (rn0 r1 (by omega)).1, rf8_g r1 (by omega)]; rfl
      · rw [q9, if_pos (show nI 6 = 6 from rfl), b2 _ (rfu110 m r), bind_some', if_neg (rn0 r1 (by omega)).2, rf9_g r1 (by omega)]; rfl
    obtain ⟨ho, hn, c1, c2, c3, c4, c5, c6⟩ := b
    let m1 : mj_m := mj_wI (mj_wI (mj_wI (wsL m (80 + 2 * s) 0 (fun k => (m.2 (80 + 2 * a) k).toInt32.toInt64) n) (79 + 2 * s) 2 (nI n)) (79 + 2 * s) 1 6) (79 + 2 * s) 3 (nI a)
    have i1 : ∀ A K, A ≠ 79 + 2 * s → m1.1 A K = m.1 A K := fun A K q => by
      show (mj_wI _ _ _ _).1 A K = _
      rw [wI_n (by omega), wI_n (by omega), wI_n (by omega), wsL_1]
    have i2 : ∀ A K, m1.2 A K = if A = 80 + 2 * s ∧ K < n then (m.2 (80 + 2 * a) K).toInt32.toInt64 else m.2 A K := fun A K => by
      show (wsL m (80 + 2 * s) 0 (fun k => (m.2 (80 + 2 * a) k).toInt32.toInt64) n).2 A K = _
      rw [wsL_2]
      by_cases q : A = 80 + 2 * s ∧ K < n
      · rw [if_pos q, if_pos (by omega)]; rfl
      · rw [if_neg q, if_neg (by omega)]
    refine ⟨1, m1, mj_wI (mj_wI (mj_wI (mj_wI (wsL m1 115 (120 * s) (fun k => m1.2 115 (120 * a + k)) n) 112 s (nI n)) 110 s 2) 113 s 6) 114 s (nI a), ?_, ?_, Rel_sh (s0 := s) h (fun b k z1 z2 => ?_) (fun b k z1 z2 z3 => ?_) hs (shRule (k := 6) (a := a) ⟨by omega, ?_, ?_, ?_, ?_, by omega, ?_, Or.inr ⟨rfl, n, hn, ?_, ?_, fun i hi => ?_⟩⟩)⟩
    · rw [p8]; unfold f_X8_ruleTold
      rw [b1, bind_some', if_pos rfl, mj_ck_t (bb_35 hs), mj_ck_t (bb_35 ha), nI_clamp (by omega), nI_clamp (by omega), told8 hs ha c5 hn (nI a) hN]; rfl
    · rw [q9, if_pos (show nI 6 = 6 from rfl), b2 m1 (fun z hz => i1 110 z (by omega)), bind_some', if_pos rfl, mj_ck_t (bb_112 ha), nI_clamp (by omega), i1 112 a (by omega), c3, mw_eq]
      exact told9 hs ha hn m1 hN
    · rw [wI_n (by omega), wI_n (by omega), wI_n (by omega), wI_n (by omega), wsL_1]
      exact i1 b k (by omega)
    · show (wsL m1 115 (120 * s) _ n).2 b k = _
      rw [wsL_2, if_neg (by omega), i2, if_neg (by omega)]
    · rw [wI_n (by omega), wI_n (by omega), wI_e]
    · rw [wI_n (by omega), wI_e]; rfl
    · rw [wI_n (by omega), wI_n (by omega), wI_n (by omega), wI_n (by omega), wsL_1]
      show (mj_wI _ _ _ _).1 _ 1 = _
      rw [wI_n (by omega), wI_e]; rfl
    · rw [wI_n (by omega), wI_n (by omega), wI_n (by omega), wI_n (by omega), wsL_1]
      exact wI_e
    · rw [wI_e]
    · rw [wI_n (by omega), wI_n (by omega), wI_n (by omega), wI_e]
    · rw [wI_n (by omega), wI_n (by omega), wI_n (by omega), wI_n (by omega), wsL_1]
      show (mj_wI _ _ _ _).1 _ 2 = _
      rw [wI_n (by omega), wI_n (by omega), wI_e]
    · show ((wsL m1 115 (120 * s) _ n).2 (80 + 2 * s) i).toInt32 = ((wsL m1 115 (120 * s) _ n).2 115 (120 * s + i)).toInt32
      rw [wsL_2, if_neg (by omega), i2, if_pos (by omega), wsL_2, if_pos (by omega), i2, if_neg (by omega), i32_64, c6 i hi, show 120 * a + (120 * s + i - 120 * s) = 120 * a + i by omega]
  · have n6 : nI k ≠ 6 := fun y => h6 ((nI_eq (a := k) (b := 6) (by omega) (by omega)).mp y)
    by_cases q : ¬ a < 0 ∧ ¬ 99 < a
    · obtain ⟨a, -, a9, rfl⟩ := mid (a := 0) (b := 99) q.1 q.2 (by decide)
      have a99 : nI a ≤ 99 := (nI_le a9 (by decide) : nI a ≤ nI 99)
      refine ⟨1, mj_wI (mj_wI (mj_wI m (79 + 2 * s) 1 (nI k)) (79 + 2 * s) 3 (nI a)) (79 + 2 * s) 2 0, mj_wI (mj_wI (mj_wI (mj_wI (mj_wI (mj_wI m (79 + 2 * s) 1 (nI k)) (79 + 2 * s) 3 (nI a)) (79 + 2 * s) 2 0) 110 s 2) 113 s (nI k)) 114 s (nI a), ?_, ?_, Rel_sh (s0 := s) h (fun b k z1 z2 => ?_) (fun b k z1 z2 z3 => rfl) hs (shRule (k := k) (a := a) ⟨by omega, ?_, ?_, ?_, ?_, a9, ?_, Or.inl ⟨h6, ?_⟩⟩)⟩
      · rw [q8]; unfold f_X8_rule_25 f_X6_holdRule
        rw [if_neg hk1, if_neg n6, if_neg q.1, if_pos a99, mj_ck_t (bb_35 hs), nI_clamp (by omega), mj_ck_t (o6 hs)]; rfl
      · rw [q9, if_neg n6, if_neg q.1, if_pos a99, rule141 hs]
      · rw [wI_n (by omega), wI_n (by omega), wI_n (by omega), wI_n (by omega), wI_n (by omega), wI_n (by omega)]
      · rw [wI_n (by omega), wI_n (by omega), wI_e]
      · rw [wI_n (by omega), wI_e]
      · rw [wI_n (by omega), wI_n (by omega), wI_n (by omega), wI_n (by omega), wI_n (by omega), wI_e]
      · rw [wI_n (by omega), wI_n (by omega), wI_n (by omega), wI_n (by omega), wI_e]
      · rw [wI_e]
      · rw [wI_n (by omega), wI_n (by omega), wI_n (by omega), wI_e]
    · have z : a < 0 ∨ ¬ a ≤ 99 := by
        by_cases y : a < 0
        · exact Or.inl y
        · refine Or.inr (fun y2 => q ⟨y, fun y3 => ?_⟩)
          rw [Int32.le_iff_toInt_le] at y2; rw [Int32.lt_iff_toInt_lt] at y3; omega
      refine ⟨-6, rfu m 6, _, ?_, ?_, Rel_rf h 6⟩
      · rw [q8]; unfold f_X8_rule_25; rw [if_neg hk1, if_neg n6, e86]
        rcases z with z | z
        · rw [if_pos z]
        · rw [if_neg z]; split <;> rfl
      · rw [q9, if_neg n6, e96]
        rcases z with z | z
        · rw [if_pos z]
        · rw [if_neg z]; split <;> rfl
