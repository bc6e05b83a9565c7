/-! WHAT STAYS: cells that a stretch of calls leaves as they were -/
def okN (a k : Nat) : Prop := (a = 0 ∧ (k = 10 ∨ k = 11)) ∨ (18 ≤ a ∧ a < 35) ∨ (75 ≤ a ∧ a ≤ 77) ∨ (79 ≤ a ∧ a < 95) ∨ (a = 95 ∧ (k = 10 ∨ k = 54 ∨ k = 55)) ∨ a = 96 ∨ (110 ≤ a ∧ a ≤ 114) ∨ a = 117 ∨ a = 119 ∨ a = 127
def okC (a k : Nat) : Prop := 1 ≤ a ∧ a < 18
def okM (a k : Nat) : Prop := (97 ≤ a ∧ a ≤ 109) ∨ (a = 95 ∧ k < 10)
def okA (a k : Nat) : Prop := okN a k ∨ okC a k ∨ okM a k
def okL (a : Nat) : Prop := (80 ≤ a ∧ a < 95) ∨ a = 115
def Eqs (P : Nat → Nat → Prop) (m m' : mj_m) : Prop := (∀ a k, P a k → m'.1 a k = m.1 a k) ∧ (∀ a k, okL a → m'.2 a k = m.2 a k)
theorem Eqs_r (P : Nat → Nat → Prop) (m : mj_m) : Eqs P m m := ⟨fun _ _ _ => rfl, fun _ _ _ => rfl⟩
theorem Eqs_t {P : Nat → Nat → Prop} {m m' m'' : mj_m} (h : Eqs P m m') (h' : Eqs P m' m'') : Eqs P m m'' := ⟨fun a k q => (h'.1 a k q).trans (h.1 a k q), fun a k q => (h'.2 a k q).trans (h.2 a k q)⟩
theorem Eqs_w {P : Nat → Nat → Prop} {m m' : mj_m} {a k : Nat} {v : Int32} (h : Eqs P m m') (q : ¬ P a k) : Eqs P m (mj_wI m' a k v) := by
  refine Eqs_t h ⟨fun b j hb => ?_, fun _ _ _ => rfl⟩
  rw [wI_1, up_at, if_neg]
  rintro ⟨rfl, rfl⟩
  exact q hb
theorem Eqs_L {P : Nat → Nat → Prop} {m m' : mj_m} {a k : Nat} {v : Int64} (h : Eqs P m m') (q : ¬ okL a) : Eqs P m (mj_wL m' a k v) := by
  refine Eqs_t h ⟨fun _ _ _ => rfl, fun b j hb => ?_⟩
  rw [wL_2, up_at, if_neg]
  rintro ⟨rfl, rfl⟩
  exact q hb
theorem Eqs_m {P Q : Nat → Nat → Prop} {m m' : mj_m} (h : Eqs P m m') (q : ∀ a k, Q a k → P a k) : Eqs Q m m' := ⟨fun a k z => h.1 a k (q a k z), h.2⟩
theorem RT_c {m m' : mj_m} {t : aT} {u : Nat → Int32} (hG : Good t) (h : Rep (cg m 1 8) t u) (e : ∀ a k, okC a k → m'.1 a k = m.1 a k) : Rep (cg m' 1 8) t u :=
  Rep_same h hG (fun f i hd => e _ _ (by have := cA_rng (b := 1) (d := 8) rfl hd; unfold okC; omega))
theorem RT_m {m m' : mj_m} {t : aT} {u : Nat → Int32} (hG : Good t) (h : Rep (mg m) t u) (e : ∀ a k, okM a k → m'.1 a k = m.1 a k) : Rep (mg m') t u :=
  Rep_same h hG (fun f i hd => e _ _ (by have := mA_rng hd; unfold okM; omega))
theorem RT_S {m m' : mj_m} {t : aT} {u : Nat → Int32} (h : RT m t u) (e : Eqs okA m m') : RT m' t u :=
  ⟨h.1, RT_c h.1 h.2.1 (fun a k q => e.1 a k (Or.inr (Or.inl q))), RT_m h.1 h.2.2 (fun a k q => e.1 a k (Or.inr (Or.inr q)))⟩
theorem Rel_N {m m' : mj_m} {t' : aT} {u' : Nat → Int32} (h : Rel m) (h1 : RT m' t' u') (e : Eqs okN m m') (hb : RB m → RB m') : Rel m' := by
  obtain ⟨-, ⟨p1, p2⟩, h3, h4, h5, ⟨n, hn, a1, a2, a3⟩, h7⟩ := h
  refine ⟨⟨t', u', h1⟩, ⟨?_, ?_⟩, ?_, ?_, ?_, ⟨n, hn, ?_, ?_, ?_⟩, ?_⟩
  · rw [e.1 95 55 (by unfold okN; omega), e.1 0 10 (by unfold okN; omega)]; exact p1
  · rw [e.1 0 10 (by unfold okN; omega)]
    rcases p2 with p2 | ⟨p2, t, u, p3, p4, p5⟩
    · exact Or.inl p2
    · refine Or.inr ⟨p2, t, u, p3, Rep_same p4 p3 (fun f i hd => e.1 _ _ ?_), Rep_same p5 p3 (fun f i hd => e.1 _ _ ?_)⟩
      · have := cA_rng (b := 18) (d := 25) rfl hd; unfold okN; omega
      · have := kA_rng (a := 119) hd; unfold okN; omega
  · show m'.1 95 10 = m'.1 0 11
    rw [e.1 95 10 (by unfold okN; omega), e.1 0 11 (by unfold okN; omega)]; exact h3
  · intro i hi
    rw [e.1 96 i (by unfold okN; omega), e.1 77 i (by unfold okN; omega)]; exact h4 i hi
  · intro s hs
    exact ShR_same (h5 s hs) (fun a q1 q2 => e.1 a s (by unfold okN; omega)) (fun k => e.1 _ k (by unfold okN; omega)) (fun i hi => ⟨e.2 _ _ (by unfold okL; omega), e.2 _ _ (by unfold okL; omega)⟩)
  · rw [e.1 75 1 (by unfold okN; omega)]; exact a1
  · rw [e.1 95 54 (by unfold okN; omega)]; exact a2
  · intro i q1 q2
    rw [e.1 127 i (by unfold okN; omega), e.1 76 i (by unfold okN; omega)]; exact a3 i q1 q2
  · refine ⟨fun i hi => ?_, hb h7.2⟩
    rw [e.1 117 i (by unfold okN; omega)]; exact h7.1 i hi
theorem Rel_S {m m' : mj_m} (h : Rel m) (e : Eqs okA m m') : Rel m' := by
  obtain ⟨t, u, h1⟩ := h.1
  exact Rel_N h (RT_S h1 e) (Eqs_m e (fun a k q => Or.inl q)) (fun z => RB_of z (fun a q => Or.inl (e.1 a 7 (by unfold okA okN okC okM; omega))))
theorem wI_n {m : mj_m} {a b A B : Nat} {x : Int32} (q : A ≠ a ∨ B ≠ b) : (mj_wI m a b x).1 A B = m.1 A B := by rw [wI_1, up_at, if_neg (by omega)]
theorem wI_e {m : mj_m} {a b : Nat} {x : Int32} : (mj_wI m a b x).1 a b = x := by rw [wI_1, up_at, if_pos ⟨rfl, rfl⟩]
/-- one more shake, street, house: the class's cells, the reference's -/
theorem a8_shake {m : mj_m} {n : Nat} (h : m.1 1 8 = nI n) (hn : n < 4) (N : Nat) (v w : Int32) : f_X7_addShake N v w m = some (nI n, mj_wI (mj_wI (mj_wI m 6 n v) 7 n w) 1 8 (nI (n + 1))) := by
  unfold f_X7_addShake
  rw [h, if_pos (show nI n < 4 from (nI_lt hn (by decide) : nI n < nI 4)), mj_ck_t (bb_6 hn), nI_clamp (by omega), mw_eq, wI_n (by omega), h, mj_ck_t (bb_7 hn), nI_clamp (by omega), mw_eq, wI_n (by omega), wI_n (by omega), h, mw_eq, wI_e, ← nI_succ, nI_pred]
theorem a9_shake {m : mj_m} {n : Nat} (h : m.1 95 2 = nI n) (hn : n < 4) (N : Nat) (v w : Int32) : f_X9_shakes N v w m = some (nI n, mj_wI (mj_wI (mj_wI m 99 n v) 100 n w) 95 2 (nI (n + 1))) := by
  unfold f_X9_shakes
  rw [h, mj_ck_t (bb_99 hn), nI_clamp (by omega), mw_eq, wI_n (by omega), h, mj_ck_t (bb_100 hn), nI_clamp (by omega), mw_eq, wI_n (by omega), wI_n (by omega), h, mw_eq, ← nI_succ]
theorem a8_street {m : mj_m} {n : Nat} (h : m.1 1 6 = nI n) (hn : n < 12) (N : Nat) (v w : Int32) : f_X7_addStreet N v w m = some (nI n, mj_wI (mj_wI (mj_wI m 2 n v) 3 n w) 1 6 (nI (n + 1))) := by
  unfold f_X7_addStreet
  rw [h, if_pos (show nI n < 12 from (nI_lt hn (by decide) : nI n < nI 12)), mj_ck_t (bb_2 hn), nI_clamp (by omega), mw_eq, wI_n (by omega), h, mj_ck_t (bb_3 hn), nI_clamp (by omega), mw_eq, wI_n (by omega), wI_n (by omega), h, mw_eq, wI_e, ← nI_succ, nI_pred]
theorem a9_street {m : mj_m} {n : Nat} (h : m.1 95 0 = nI n) (hn : n < 12) (N : Nat) (v w : Int32) : f_X9_streets N v w m = some (nI n, mj_wI (mj_wI (mj_wI m 97 n v) 98 n w) 95 0 (nI (n + 1))) := by
  unfold f_X9_streets
  rw [h, mj_ck_t (bb_97 hn), nI_clamp (by omega), mw_eq, wI_n (by omega), h, mj_ck_t (bb_98 hn), nI_clamp (by omega), mw_eq, wI_n (by omega), wI_n (by omega), h, mw_eq, ← nI_succ]
def h8w (m : mj_m) (n : Nat) (c w d e k : Int32) : mj_m := mj_wI (mj_wI (mj_wI (mj_wI (mj_wI (mj_wI (mj_wI (mj_wI (mj_wI (mj_wI m (8 + n) 0 c) (8 + n) 1 w) (8 + n) 2 d) (8 + n) 3 e) (8 + n) 4 k) (8 + n) 5 (-1)) (8 + n) 6 (-1)) (8 + n) 7 0) 5 n 0) 1 7 (nI (n + 1))
def h9w (m : mj_m) (n : Nat) (c w d e k : Int32) : mj_m := mj_wI (mj_wI (mj_wI (mj_wI (mj_wI (mj_wI (mj_wI (mj_wI (mj_wI (mj_wI m 101 n c) 102 n w) 103 n d) 104 n e) 105 n k) 106 n (-1)) 107 n (-1)) 108 n 0) 109 n 0) 95 1 (nI (n + 1))
theorem a8_house {m : mj_m} {n : Nat} (h : m.1 1 7 = nI n) (hn : n < 10) (N : Nat) (c w d e k : Int32) : f_X7_addHouse N c w d e k m = some (nI n, h8w m n c w d e k) := by
  unfold f_X7_addHouse h8w
  rw [h, if_pos (show nI n < 10 from (nI_lt hn (by decide) : nI n < nI 10)), mj_ck_t (bb_4 hn), nI_clamp (by omega)]
  simp only [mw_eq]
  simp only [wI_n (show 1 ≠ 8 + n ∨ 7 ≠ 0 by omega), wI_n (show 1 ≠ 8 + n ∨ 7 ≠ 1 by omega), wI_n (show 1 ≠ 8 + n ∨ 7 ≠ 2 by omega), wI_n (show 1 ≠ 8 + n ∨ 7 ≠ 3 by omega), wI_n (show 1 ≠ 8 + n ∨ 7 ≠ 4 by omega), wI_n (show 1 ≠ 8 + n ∨ 7 ≠ 5 by omega), wI_n (show 1 ≠ 8 + n ∨ 7 ≠ 6 by omega), wI_n (show 1 ≠ 8 + n ∨ 7 ≠ 7 by omega), wI_n (show 1 ≠ 5 ∨ 7 ≠ n by omega), wI_e, h, nI_clamp (show n < 2 ^ 31 by omega), mj_ck_t (bb_5 hn), ← nI_succ, nI_pred]
theorem a9_house {m : mj_m} {n : Nat} (h : m.1 95 1 = nI n) (hn : n < 10) (N : Nat) (c w d e k : Int32) : f_X9_comes N c w d e k m = some (nI n, h9w m n c w d e k) := by
  unfold f_X9_comes h9w
  rw [h, nI_clamp (by omega)]
  simp only [mw_eq, wI_n (show 95 ≠ 101 ∨ 1 ≠ n by omega), wI_n (show 95 ≠ 102 ∨ 1 ≠ n by omega), wI_n (show 95 ≠ 103 ∨ 1 ≠ n by omega), wI_n (show 95 ≠ 104 ∨ 1 ≠ n by omega), wI_n (show 95 ≠ 105 ∨ 1 ≠ n by omega), wI_n (show 95 ≠ 106 ∨ 1 ≠ n by omega), wI_n (show 95 ≠ 107 ∨ 1 ≠ n by omega), wI_n (show 95 ≠ 108 ∨ 1 ≠ n by omega), wI_n (show 95 ≠ 109 ∨ 1 ≠ n by omega), h, nI_clamp (show n < 2 ^ 31 by omega), mj_ck_t (bb_101 hn), mj_ck_t (bb_102 hn), mj_ck_t (bb_103 hn), mj_ck_t (bb_104 hn), mj_ck_t (bb_105 hn), mj_ck_t (bb_106 hn), mj_ck_t (bb_107 hn), mj_ck_t (bb_108 hn), mj_ck_t (bb_109 hn), ← nI_succ]
/-- the town that has grown, on either side -/
theorem gc_house {m : mj_m} {t : aT} {u : Nat → Int32} (hG : Good t) (h : Rep (cg m 1 8) t u) (hn : t 13 1 < 10) (x : Nat → Nat) (x5 : x 5 = 0) (x6 : x 6 = 0) (x7 : x 7 = 0) (x8 : x 8 = 0) : Rep (cg (h8w m (t 13 1) (nI (x 0)) (nI (x 1)) (nI (x 2)) (nI (x 3)) (nI (x 4))) 1 8) (grow t 0 8 1 x) u := by
  refine Rep_grow x h hG (by omega) (fun a b hd q1 q2 => ?_) ?_ (fun f f1 f2 => ?_)
  · obtain ⟨d1, d2, d3, d4, d5, d6⟩ := dm_use hd
    rcases cA_fm (b := 1) (d := 8) hd with ⟨q, r⟩ | ⟨q, r⟩ | ⟨q, r⟩ | ⟨q, r⟩ | ⟨q, r⟩ | ⟨q, r⟩ | ⟨q, r⟩ | ⟨q, r⟩ | ⟨q, r⟩ <;>
    (unfold cg gA h8w; rw [r]; dsimp only; rw [wI_n, wI_n, wI_n, wI_n, wI_n, wI_n, wI_n, wI_n, wI_n, wI_n] <;> omega)
  · show (h8w m (t 13 1) _ _ _ _ _).1 1 (6 + 1) = _
    unfold h8w
    rw [wI_e]
  · generalize hm : h8w m (t 13 1) (nI (x 0)) (nI (x 1)) (nI (x 2)) (nI (x 3)) (nI (x 4)) = m'
    have r : m' = h8w m (t 13 1) (nI (x 0)) (nI (x 1)) (nI (x 2)) (nI (x 3)) (nI (x 4)) := hm.symm
    unfold h8w at r
    rcases (by omega : f = 0 ∨ f = 1 ∨ f = 2 ∨ f = 3 ∨ f = 4 ∨ f = 5 ∨ f = 6 ∨ f = 7 ∨ f = 8) with rfl | rfl | rfl | rfl | rfl | rfl | rfl | rfl | rfl
    · show m'.1 (8 + t 13 1) 0 = _; rw [r, wI_n (by omega), wI_n (by omega), wI_n (by omega), wI_n (by omega), wI_n (by omega), wI_n (by omega), wI_n (by omega), wI_n (by omega), wI_n (by omega), wI_e]; simp
    · show m'.1 (8 + t 13 1) 1 = _; rw [r, wI_n (by omega), wI_n (by omega), wI_n (by omega), wI_n (by omega), wI_n (by omega), wI_n (by omega), wI_n (by omega), wI_n (by omega), wI_e]; simp
    · show m'.1 (8 + t 13 1) 2 = _; rw [r, wI_n (by omega), wI_n (by omega), wI_n (by omega), wI_n (by omega), wI_n (by omega), wI_n (by omega), wI_n (by omega), wI_e]; simp
    · show m'.1 (8 + t 13 1) 3 = _; rw [r, wI_n (by omega), wI_n (by omega), wI_n (by omega), wI_n (by omega), wI_n (by omega), wI_n (by omega), wI_e]; simp
    · show m'.1 (8 + t 13 1) 4 = _; rw [r, wI_n (by omega), wI_n (by omega), wI_n (by omega), wI_n (by omega), wI_n (by omega), wI_e]; simp
    · show m'.1 (8 + t 13 1) 5 = _; rw [r, wI_n (by omega), wI_n (by omega), wI_n (by omega), wI_n (by omega), wI_e, x5]; decide
    · show m'.1 (8 + t 13 1) 6 = _; rw [r, wI_n (by omega), wI_n (by omega), wI_n (by omega), wI_e, x6]; decide
    · show m'.1 5 (t 13 1) = _; rw [r, wI_n (by omega), wI_e, x7]; decide
    · show m'.1 (8 + t 13 1) 7 = _; rw [r, wI_n (by omega), wI_n (by omega), wI_e, x8]; decide
theorem gm_house {m : mj_m} {t : aT} {u : Nat → Int32} (hG : Good t) (h : Rep (mg m) t u) (hn : t 13 1 < 10) (x : Nat → Nat) (x5 : x 5 = 0) (x6 : x 6 = 0) (x7 : x 7 = 0) (x8 : x 8 = 0) : Rep (mg (h9w m (t 13 1) (nI (x 0)) (nI (x 1)) (nI (x 2)) (nI (x 3)) (nI (x 4)))) (grow t 0 8 1 x) u := by
  refine Rep_grow x h hG (by omega) (fun a b hd q1 q2 => ?_) ?_ (fun f f1 f2 => ?_)
  · obtain ⟨d1, d2, d3, d4, d5, d6⟩ := dm_use hd
    rcases mA_fm hd with ⟨q, r⟩ | ⟨q, r⟩ | ⟨q, r⟩ | ⟨q, r⟩ | ⟨q, r⟩ | ⟨q, r⟩ | ⟨q, r⟩ <;>
    (unfold mg gA h9w; rw [r]; dsimp only; rw [wI_n, wI_n, wI_n, wI_n, wI_n, wI_n, wI_n, wI_n, wI_n, wI_n] <;> omega)
  · show (h9w m (t 13 1) _ _ _ _ _).1 95 1 = _
    unfold h9w
    rw [wI_e]
  · generalize hm : h9w m (t 13 1) (nI (x 0)) (nI (x 1)) (nI (x 2)) (nI (x 3)) (nI (x 4)) = m'
    have r : m' = h9w m (t 13 1) (nI (x 0)) (nI (x 1)) (nI (x 2)) (nI (x 3)) (nI (x 4)) := hm.symm
    unfold h9w at r
    rcases (by omega : f = 0 ∨ f = 1 ∨ f = 2 ∨ f = 3 ∨ f = 4 ∨ f = 5 ∨ f = 6 ∨ f = 7 ∨ f = 8) with rfl | rfl | rfl | rfl | rfl | rfl | rfl | rfl | rfl
    · show m'.1 101 (t 13 1) = _; rw [r]; simp [wI_1, up_at]
    · show m'.1 102 (t 13 1) = _; rw [r]; simp [wI_1, up_at]
    · show m'.1 103 (t 13 1) = _; rw [r]; simp [wI_1, up_at]
    · show m'.1 104 (t 13 1) = _; rw [r]; simp [wI_1, up_at]
    · show m'.1 105 (t 13 1) = _; rw [r]; simp [wI_1, up_at]
    · show m'.1 106 (t 13 1) = _; rw [r, x5]; simp [wI_1, up_at]; decide
    · show m'.1 107 (t 13 1) = _; rw [r, x6]; simp [wI_1, up_at]; decide
    · show m'.1 108 (t 13 1) = _; rw [r, x7]; simp [wI_1, up_at]; decide
    · show m'.1 109 (t 13 1) = _; rw [r, x8]; simp [wI_1, up_at]; decide
