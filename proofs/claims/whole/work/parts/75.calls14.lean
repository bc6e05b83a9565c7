/-! THE CALLS, further: order, says -/
def Ru (m : mj_m) (s k a : Nat) (e : Nat → Int32) (n : Nat) : Prop := k < 7 ∧ a ≤ 99 ∧ n ≤ 120 ∧ m.1 (79 + 2 * s) 1 = nI k ∧ m.1 (79 + 2 * s) 3 = nI a ∧ m.1 113 s = nI k ∧ m.1 114 s = nI a ∧ m.1 110 s = 2 ∧ (k = 6 → m.1 (79 + 2 * s) 2 = nI n ∧ m.1 112 s = nI n ∧ ∀ i, i < n → (m.2 (80 + 2 * s) i).toInt32 = e i ∧ (m.2 115 (120 * s + i)).toInt32 = e i)
theorem Ru_of {m : mj_m} {s k a : Nat} (r : RuleS m s k a) : ∃ e n, Ru m s k a e n := by
  obtain ⟨h0, h1, h2, h3, h4, h5, h6, h7⟩ := r
  rcases h7 with ⟨h7, -⟩ | ⟨h7, n, h8, h9, h10, h11⟩
  · exact ⟨fun _ => 0, 0, h0, h5, by omega, h3, h4, h2, h6, h1, fun z => absurd z h7⟩
  · exact ⟨fun i => (m.2 (80 + 2 * s) i).toInt32, n, h0, h5, h8, h3, h4, h2, h6, h1, fun _ => ⟨h10, h9, fun i hi => ⟨rfl, (h11 i hi).symm⟩⟩⟩
theorem Ru_e {m m' : mj_m} {s k a n : Nat} {e : Nat → Int32} (hs : s < 8) (r : Ru m s k a e n) (e1 : ∀ b j, (79 ≤ b ∧ b < 95) ∨ (110 ≤ b ∧ b ≤ 114) → m'.1 b j = m.1 b j) (e2 : ∀ b j, okL b → m'.2 b j = m.2 b j) : Ru m' s k a e n := by
  obtain ⟨h0, h1, h2, h3, h4, h5, h6, h7, h8⟩ := r
  refine ⟨h0, h1, h2, by rw [e1 _ _ (by omega)]; exact h3, by rw [e1 _ _ (by omega)]; exact h4, by rw [e1 _ _ (by omega)]; exact h5, by rw [e1 _ _ (by omega)]; exact h6, by rw [e1 _ _ (by omega)]; exact h7, fun z => ?_⟩
  obtain ⟨a1, a2, a3⟩ := h8 z
  exact ⟨by rw [e1 _ _ (by omega)]; exact a1, by rw [e1 _ _ (by omega)]; exact a2, fun i hi => by rw [e2 _ _ (by unfold okL; omega), e2 _ _ (by unfold okL; omega)]; exact a3 i hi⟩
theorem Ru_A {m m' : mj_m} {s k a n : Nat} {e : Nat → Int32} (hs : s < 8) (r : Ru m s k a e n) (q : Eqs okA m m') : Ru m' s k a e n := Ru_e hs r (fun b j h => q.1 b j (by unfold okA okN; omega)) q.2
def ordL (t : aT) (k a : Nat) (e : Nat → Int32) (n : Nat) : List Nat := if k = 4 then restL t (svL t a (t 13 1)) (t 13 1) else ordA (akB (kyN t k e n)) t (t 13 1)
theorem restL_nd {t : aT} {T : List Nat} (nd : T.Nodup) : ∀ h, (restL t T h).Nodup := by
  intro h
  induction h with
  | zero => exact nd
  | succ h ih =>
    rw [restL_s]
    split
    · rename_i q; exact nd_snoc ih q.2
    · exact ih
theorem ordL_ok {t : aT} (hb : t 13 1 ≤ 10) (k a : Nat) (e : Nat → Int32) (n : Nat) : (ordL t k a e n).Nodup ∧ ∀ x, x ∈ ordL t k a e n → x < t 13 1 := by
  unfold ordL
  obtain ⟨o, -⟩ := sv_ok hb a (t 13 1)
  split
  · refine ⟨restL_nd o.1 _, fun x hx => ?_⟩
    rcases (restL_mem _ _ _).mp hx with z | z
    · exact (o.2 x z).1
    · exact z.1
  · exact ⟨ord_nd _ t _, fun x hx => ((ordA_mem _ _ _ _).mp hx).1⟩
theorem ordL_len {t : aT} (hb : t 13 1 ≤ 10) (k a : Nat) (e : Nat → Int32) (n : Nat) : (ordL t k a e n).length ≤ t 13 1 := nd_len _ _ (ordL_ok hb k a e n).1 (ordL_ok hb k a e n).2
theorem arrange8 {m : mj_m} {t : aT} {u : Nat → Int32} (hG : Good t) (g : Rep (cg m 1 8) t u) {s k a n A : Nat} {e : Nat → Int32} (hs : s < 8) (r : Ru m s k a e n) (hA : A = 78 ∨ A = 49) {N : Nat} (hN : 1100 ≤ N) : ∃ m', f_X3_arrange N (79 + 2 * s) A m = some (nI (ordL t k a e n).length, m') ∧ Rw m' A (ordL t k a e n) ∧ Pd m m' := by
  obtain ⟨h0, h1, h2, h3, h4, h5, h6, h7, h8⟩ := r
  unfold f_X3_arrange ordL
  rw [mj_ck_t (o6 hs), h3]
  by_cases q : k = 4
  · rw [if_pos q, if_pos (by rw [q]; rfl), h4]
    obtain ⟨m', x1, x2, x3⟩ := sav8 hG g hA h1 hN
    exact ⟨m', by rw [x1]; rfl, x2, x3⟩
  · rw [if_neg q, if_neg (ne4 (by omega) q)]
    obtain ⟨m', x1, x2, x3, -, -⟩ := arr8 hG g (s := s) hA (ky := kyN t k e n) (N := N) (by omega) (fun m' p h hh => key8 hG (Pd_c hG g p) hs h0 (by rw [p.1 _ _ (by omega)]; exact h3) q h2 (fun z => by
      obtain ⟨a1, a2, a3⟩ := h8 z
      exact ⟨by rw [p.1 _ _ (by omega)]; exact a1, fun i hi => by rw [p.2 _ _ (by omega)]; exact (a3 i hi).1⟩) hh (by omega))
    exact ⟨m', x1, x2, x3⟩
theorem orders9 {m : mj_m} {t : aT} {u : Nat → Int32} (hG : Good t) (g : Rep (mg m) t u) {s k a n : Nat} {e : Nat → Int32} (hs : s < 8) (r : Ru m s k a e n) {N : Nat} (hN : 1100 ≤ N) : ∃ m', f_X9_orders N (nI s) m = some m' ∧ OL9 m' t (ordL t k a e n) ∧ Eqs okA m m' := by
  have gh := GH hG
  obtain ⟨h0, h1, h2, h3, h4, h5, h6, h7, h8⟩ := r
  by_cases q : k = 4
  · subst q
    exact sav9 hG g hs h1 h5 h6 hN
  · by_cases y : k = 6
    · subst y
      obtain ⟨a1, a2, a3⟩ := h8 rfl
      obtain ⟨m', x1, x2, x3⟩ := toldO9 hG g hs h2 h5 a2 (fun i hi => (a3 i hi).2) (N := N) (by omega)
      rw [told_eq (by omega) e h2] at x2
      exact ⟨m', x1, x2, x3⟩
    · obtain ⟨m', x1, x2, x3, x4⟩ := ordI9 hG g hs h0 q y e n h5 (N := N) (by omega)
      refine ⟨m', x1, ?_, x4⟩
      unfold ordL
      rw [if_neg q]
      exact ⟨x2, x3, ord_nd _ t _, fun x hx => ((ordA_mem _ _ _ _).mp hx).1⟩
theorem rfm_E {m m' : mj_m} (e : Eqs okA m m') (n : Nat) : Eqs okA (rfm m n) (rfm m' n) := by
  refine ⟨fun a k q => ?_, e.2⟩
  unfold rfm
  rw [wI_1, wI_1, up_at, up_at]
  by_cases y : a = 96 ∧ k = n
  · rw [if_pos y, if_pos y, e.1 96 n (by unfold okA okN; omega)]
  · rw [if_neg y, if_neg y]; exact e.1 a k q
/-- both refuse, the reference after some work of its own; the class after some of its own -/
theorem Rel_rf2 {m m1 m2 : mj_m} (h : Rel m) (e1 : Eqs okA m m1) (n : Nat) (e2 : Eqs okA (rfu m1 n) m2) : Rel (rfm m2 n) :=
  Rel_S (Rel_rf (Rel_S h e1) n) (rfm_E e2 n)
theorem RS_of {m : mj_m} (h : Rel m) : RS m := h.2.2.2.2.1
theorem rfu_R {m : mj_m} {s k a n : Nat} {e : Nat → Int32} (hs : s < 8) (r : Ru m s k a e n) (j : Nat) : Ru (rfu m j) s k a e n := Ru_e hs r (fun b i q => wI_n (by omega)) (fun _ _ _ => rfl)
theorem ca_order {m : mj_m} (h : Rel m) {N : Nat} (hN : 1100 ≤ N) (v w : Int32) : Both (f_X8_order N v w) (f_X9_order N v w) m := by
  rcases lk_rule (RS_of h) N v with ⟨r, r1, r2, a1, a2⟩ | ⟨s, k, a, hs, rfl, b, a1, a2⟩
  · refine ⟨-(nI r), rfu m r, _, ?_, ?_, Rel_rf h r⟩
    · unfold f_X8_order; rw [a1, bind_some', if_neg (rn0 r1 (by omega)).1, rf8_g r1 (by omega)]; rfl
    · unfold f_X9_order; rw [a2 (rfu m r) (rfu110 m r), bind_some', if_neg (rn0 r1 (by omega)).2, rf9_g r1 (by omega)]; rfl
  obtain ⟨t, u, h1⟩ := h.1
  have hG := h1.1
  have gh := GH hG
  obtain ⟨e, n, ru⟩ := Ru_of b
  obtain ⟨m1, x1, x2, x3⟩ := arrange8 hG h1.2.1 hs ru (Or.inl rfl) hN
  have e1 := Pd_E x3
  have r1 : RT m1 t u := RT_S h1 e1
  have ru1 := Ru_A hs ru e1
  have ll := ordL_len gh k a e n
  have ol := ordL_ok gh k a e n
  have w0 : ∀ m' : mj_m, Eqs okA m m' ∨ (∃ j, m' = rfu m1 j) → f_X9_wants N (nI s) 2 m' = some 0 := fun m' q => a2 m' (fun i hi => by
    rcases q with q | ⟨j, rfl⟩
    · exact q.1 110 i (by unfold okA okN; omega)
    · rw [show (rfu m1 j).1 110 i = m1.1 110 i from wI_n (by omega)]; exact e1.1 110 i (by unfold okA okN; omega))
  by_cases q : w < 0 ∨ nI (ordL t k a e n).length ≤ w
  · obtain ⟨m2, y1, y2, y3⟩ := orders9 hG (RT_rfu r1 5).2.2 hs (rfu_R hs ru1 5) hN
    refine ⟨-5, rfu m1 5, rfm m2 5, ?_, ?_, Rel_rf2 h e1 5 y3⟩
    · unfold f_X8_order f_X8_order_51
      rw [a1, bind_some', if_pos rfl, mj_ck_t (bb_35 hs), nI_clamp (by omega), x1, bind_some', rf8_5]
      by_cases q1 : w < 0
      · rw [if_pos q1]; rfl
      · rw [if_neg q1, if_pos (q.resolve_left q1)]; rfl
    · unfold f_X9_order f_X9_order_43
      rw [w0 _ (Or.inr ⟨5, rfl⟩), bind_some', if_pos rfl, y1, bind_some', y2.2.1, rf9_5]
      by_cases q1 : w < 0
      · rw [if_pos q1]; rfl
      · rw [if_neg q1, if_pos (q.resolve_left q1)]; rfl
  · have q1 : ¬ w < 0 := fun z => q (Or.inl z)
    obtain ⟨i, hi, rfl⟩ := bnd (c := nI (ordL t k a e n).length) rfl (by omega) q1 (fun z => q (Or.inr z))
    obtain ⟨m2, y1, y2, y3⟩ := orders9 hG r1.2.2 hs ru1 hN
    refine ⟨nI (gd (ordL t k a e n) i), m1, m2, ?_, ?_, Rel_S h (Eqs_t e1 y3)⟩
    · unfold f_X8_order
      rw [a1, bind_some', if_pos rfl, mj_ck_t (bb_35 hs), nI_clamp (by omega), x1, bind_some', if_neg q1, if_neg (nI_ge hi (by omega)), if_pos (show nI i < 10 from (nI_lt (show i < 10 by omega) (by omega) : nI i < nI 10)), mj_ck_t (bb_78 (by omega)), nI_clamp (by omega), x2 i hi]
    · unfold f_X9_order
      rw [w0 _ (Or.inl e1), bind_some', if_pos rfl, y1, bind_some', if_neg q1, y2.2.1, if_neg (nI_ge hi (by omega)), mj_ck_t (bb_123 (by omega)), nI_clamp (by omega), y2.1 i hi]
/-! says -/
theorem isKd (N : Nat) (v : Int32) (m : mj_m) : (f_X8_isKind N v m = some 0 ∧ (v < 0 ∨ 6 < v)) ∨ ∃ k, k < 7 ∧ v = nI k ∧ f_X8_isKind N v m = some 1 := by
  unfold f_X8_isKind f_X8_isKind_14
  by_cases h0 : v < 0
  · rw [if_pos h0]; exact Or.inl ⟨rfl, Or.inl h0⟩
  · rw [if_neg h0]
    by_cases h1 : 6 < v
    · rw [if_pos h1]; exact Or.inl ⟨rfl, Or.inr h1⟩
    · rw [if_neg h1]
      obtain ⟨n, n1, n2, e⟩ := mid (x := v) (a := 0) (b := 6) h0 h1 (by decide)
      exact Or.inr ⟨n, by omega, e, rfl⟩
theorem isKd' (N : Nat) {k : Nat} (hk : k < 7) (m : mj_m) : f_X8_isKind N (nI k) m = some 1 := by
  unfold f_X8_isKind
  rw [if_neg (nI_pos (by omega)), if_neg (show ¬ 6 < nI k from (nI_nlt (by omega) (by omega) : ¬ nI 6 < nI k))]
theorem un_step {N w k i M : Nat} {m : mj_m} (hw : w < 7) (hk : k < 7) (hi : i ≤ 6) : mj_lp (M + 1) (f_X8_isUnder_4 N (nI w) m) (nI k, nI i) = if k = w then some 1 else mj_lp M (f_X8_isUnder_4 N (nI w) m) (mj_abv k, nI (i + 1)) := by
  show f_X8_isUnder_4 N (nI w) m (mj_lp M (f_X8_isUnder_4 N (nI w) m)) (nI k, nI i) = _
  generalize mj_lp M (f_X8_isUnder_4 N (nI w) m) = K
  have hab : mj_ab (nI k) = true := by
    unfold mj_ab
    rw [nI_toInt (by omega), decide_eq_true (by omega), decide_eq_true (by omega)]; rfl
  unfold f_X8_isUnder_4
  dsimp only
  rw [if_neg (show ¬ 6 < nI i from (nI_nlt (by omega) (by omega) : ¬ nI 6 < nI i)), isKd' N hk, bind_some', if_neg (by decide), mj_ck_t hab, nI_clamp (by omega), mw_eq, mw_eq, nI_succ]
  by_cases q : k = w
  · rw [if_pos q, if_pos (by rw [q])]
  · rw [if_neg q, if_neg (fun z => q ((nI_eq (by omega) (by omega)).mp z))]
theorem un_end {N w i M : Nat} {m : mj_m} (hi : i ≤ 6) : mj_lp (M + 1) (f_X8_isUnder_4 N (nI w) m) (-1, nI i) = some 0 := by
  show f_X8_isUnder_4 N (nI w) m (mj_lp M (f_X8_isUnder_4 N (nI w) m)) (-1, nI i) = _
  unfold f_X8_isUnder_4
  dsimp only
  rw [if_neg (show ¬ 6 < nI i from (nI_nlt (by omega) (by omega) : ¬ nI 6 < nI i))]
  have : f_X8_isKind N (-1) m = some 0 := by unfold f_X8_isKind f_X8_isKind_14; rw [if_pos (by decide)]
  rw [this, bind_some', if_pos rfl]
def und (k w : Nat) : Prop := w = 0 ∨ w = k ∨ (w = 1 ∧ k = 3) ∨ (w = 2 ∧ k = 5)
theorem un0 {N w i M : Nat} {m : mj_m} (hw : w < 7) (hi : i ≤ 5) : mj_lp (M + 2) (f_X8_isUnder_4 N (nI w) m) (nI 0, nI i) = if 0 = w then some 1 else some 0 := by
  rw [un_step (M := M + 1) hw (by omega) (by omega)]
  by_cases q : 0 = w
  · rw [if_pos q, if_pos q]
  · rw [if_neg q, if_neg q]; exact un_end (by omega)
theorem un1 {N w i M k : Nat} {m : mj_m} (hw : w < 7) (hk : k = 1 ∨ k = 2 ∨ k = 4 ∨ k = 6) (hi : i ≤ 4) : mj_lp (M + 3) (f_X8_isUnder_4 N (nI w) m) (nI k, nI i) = if k = w then some 1 else if 0 = w then some 1 else some 0 := by
  rw [un_step (M := M + 2) hw (by omega) (by omega)]
  have e : mj_abv k = nI 0 := by rcases hk with rfl | rfl | rfl | rfl <;> rfl
  rw [e, un0 hw (by omega)]
theorem isUn {N k w : Nat} {m : mj_m} (hk : k < 7) (hw : w < 7) (hN : 10 ≤ N) : (und k w ∧ f_X8_isUnder N (nI k) (nI w) m = some 1) ∨ (¬ und k w ∧ f_X8_isUnder N (nI k) (nI w) m = some 0) := by
  obtain ⟨M, rfl⟩ : ∃ M, N = M + 4 := ⟨N - 4, by omega⟩
  unfold f_X8_isUnder und
  have e0 : ∀ x : Option Int32, mj_lp (M + 4) (f_X8_isUnder_4 (M + 4) (nI w) m) (nI k, 0) = x ↔ mj_lp (M + 4) (f_X8_isUnder_4 (M + 4) (nI w) m) (nI k, nI 0) = x := fun x => Iff.rfl
  rw [e0, e0]
  rcases (by omega : k = 0 ∨ (k = 1 ∨ k = 2 ∨ k = 4 ∨ k = 6) ∨ k = 3 ∨ k = 5) with rfl | q | rfl | rfl
  · rw [un0 (M := M + 2) hw (by omega)]
    by_cases y : 0 = w
    · rw [if_pos y]; exact Or.inl ⟨Or.inl y.symm, rfl⟩
    · rw [if_neg y]; exact Or.inr ⟨by omega, rfl⟩
  · rw [un1 (M := M + 1) hw q (by omega)]
    by_cases y : k = w
    · rw [if_pos y]; exact Or.inl ⟨by omega, rfl⟩
    · rw [if_neg y]
      by_cases z : 0 = w
      · rw [if_pos z]; exact Or.inl ⟨Or.inl z.symm, rfl⟩
      · rw [if_neg z]; exact Or.inr ⟨by omega, rfl⟩
  · rw [un_step (M := M + 3) hw (by omega) (by omega), show mj_abv 3 = nI 1 from rfl, un1 hw (by omega) (by omega)]
    by_cases y : 3 = w
    · rw [if_pos y]; exact Or.inl ⟨by omega, rfl⟩
    · rw [if_neg y]
      by_cases x : 1 = w
      · rw [if_pos x]; exact Or.inl ⟨by omega, rfl⟩
      · rw [if_neg x]
        by_cases z : 0 = w
        · rw [if_pos z]; exact Or.inl ⟨Or.inl z.symm, rfl⟩
        · rw [if_neg z]; exact Or.inr ⟨by omega, rfl⟩
  · rw [un_step (M := M + 3) hw (by omega) (by omega), show mj_abv 5 = nI 2 from rfl, un1 hw (by omega) (by omega)]
    by_cases y : 5 = w
    · rw [if_pos y]; exact Or.inl ⟨by omega, rfl⟩
    · rw [if_neg y]
      by_cases x : 2 = w
      · rw [if_pos x]; exact Or.inl ⟨by omega, rfl⟩
      · rw [if_neg x]
        by_cases z : 0 = w
        · rw [if_pos z]; exact Or.inl ⟨Or.inl z.symm, rfl⟩
        · rw [if_neg z]; exact Or.inr ⟨by omega, rfl⟩
def ctN (t : aT) (a : Nat) : Nat → Nat
  | 0 => 0
  | n + 1 => if a < t 4 n then ctN t a n else ctN t a n + 1
theorem ctN_le (t : aT) (a : Nat) : ∀ n, ctN t a n ≤ n := by
  intro n
  induction n with
  | zero => exact Nat.le_refl _
  | succ n ih => unfold ctN; split <;> omega
theorem count8 {m : mj_m} {t : aT} {u : Nat → Int32} (hG : Good t) (g : Rep (cg m 1 8) t u) {a : Nat} (ha : a ≤ 99) {N : Nat} (hN : 20 ≤ N) : f_X7_countUpToCost N (nI a) m = some (nI (ctN t a (t 13 1))) := by
  have gh := GH hG
  unfold f_X7_countUpToCost
  refine lp_for (fun i => (nI (ctN t a i), nI i)) (c := t 13 1) (by omega) (fun i hi k => ?_) (fun k => ?_)
  · obtain ⟨c1, c2⟩ := (hG.2.1 i hi).2.2.2.2.1
    show _ = k (nI (if a < t 4 i then ctN t a i else ctN t a i + 1), nI (i + 1))
    unfold f_X7_countUpToCost_4 f_X7_countUpToCost_31
    dsimp only
    rw [x_houses g, if_neg (nI_ge hi (by omega)), mj_ck_t (bb_4 (by omega)), nI_clamp (by omega), x_cost g hi, mw_eq, mw_eq, mw_eq, mw_eq]
    by_cases y : a < t 4 i
    · rw [if_pos (nI_lt y (by omega)), if_pos y, Int32.add_zero, nI_succ]
    · rw [if_neg (nI_nlt (by omega) (by omega)), if_neg y, nI_succ, nI_succ]
  · unfold f_X7_countUpToCost_4
    dsimp only
    rw [x_houses g, if_pos (nI_le (by omega) (by omega))]
theorem count9 {m : mj_m} {t : aT} {u : Nat → Int32} (hG : Good t) (g : Rep (mg m) t u) {s a : Nat} (hs : s < 8) (ha : a ≤ 99) (hy : m.1 114 s = nI a) {N : Nat} (hN : 20 ≤ N) : mj_lp N (f_X9_says_135 N (nI s) m) (0, 0) = some (nI (ctN t a (t 13 1)), m) := by
  have gh := GH hG
  refine lp_for (fun i => (nI (ctN t a i), nI i)) (c := t 13 1) (by omega) (fun i hi k => ?_) (fun k => ?_)
  · obtain ⟨c1, c2⟩ := (hG.2.1 i hi).2.2.2.2.1
    show _ = k (nI (if a < t 4 i then ctN t a i else ctN t a i + 1), nI (i + 1))
    unfold f_X9_says_135 f_X9_says_163
    dsimp only
    rw [y_houses g, if_neg (nI_ge hi (by omega)), mj_ck_t (bb_105 (by omega)), mj_ck_t (bb_114 hs), nI_clamp (show i < 2 ^ 31 by omega), nI_clamp (show s < 2 ^ 31 by omega), hy, y_cost g hi, mw_eq, mw_eq, mw_eq]
    by_cases y : a < t 4 i
    · rw [if_pos (nI_lt y (by omega)), if_pos y, nI_succ]
    · rw [if_neg (nI_nlt (by omega) (by omega)), if_neg y, nI_succ, nI_succ]
  · unfold f_X9_says_135
    dsimp only
    rw [y_houses g, if_pos (nI_le (by omega) (by omega))]
theorem ca_says {m : mj_m} (h : Rel m) {N : Nat} (hN : 1100 ≤ N) (v w : Int32) : Both (f_X8_says N v w) (f_X9_says N v w) m := by
  have e8 : f_X8_says_14 N m = some (-1, rfu m 1) := by unfold f_X8_says_14; rw [rf8_1]; rfl
  have e9 : f_X9_says_18 N (rfu m 1) = some (-1, rfm (rfu m 1) 1) := by unfold f_X9_says_18; rw [rf9_1]; rfl
  rcases isSh N v m with a | ⟨s, hs, rfl, a⟩
  · refine ⟨-1, rfu m 1, _, ?_, ?_, Rel_rf h 1⟩
    · unfold f_X8_says; rw [a]; exact e8
    · unfold f_X9_says; rw [isSh9 N v m, a]; exact e9
  have a9 : ∀ m' : mj_m, f_X9_isShelf N (nI s) m' = some 1 := fun m' => (isSh9 N (nI s) m m').trans a
  rcases isKd N w m with ⟨b, b2⟩ | ⟨w', hw, rfl, b⟩
  · refine ⟨-1, rfu m 1, _, ?_, ?_, Rel_rf h 1⟩
    · unfold f_X8_says; rw [a, bind_some', if_neg (by decide), b]; exact e8
    · unfold f_X9_says
      rw [a9, bind_some', if_neg (by decide)]
      by_cases q : w < 0
      · rw [if_pos q]; exact e9
      · have b3 := b2.resolve_left q
        rw [if_neg q, if_neg (fun z => by rw [Int32.le_iff_toInt_le] at z; rw [Int32.lt_iff_toInt_lt] at b3; omega)]; exact e9
  obtain ⟨t, u, h1⟩ := h.1
  have hG := h1.1
  have gh := GH hG
  have f9 : ∀ m' : mj_m, f_X9_says N (nI s) (nI w') m' = (mj_ck (mj_b 0 110 (nI s)) ( if (m'.1 110 (nI s).toNatClampNeg) = 1 then ((f_X9_no N (-2 : Int32) m').bind (fun r7 => some (r7.1, r7.2))) else (if (m'.1 110 (nI s).toNatClampNeg) = 0 then ((f_X9_no N (-3 : Int32) m').bind (fun r8 => some (r8.1, r8.2))) else (mj_ck (mj_b 0 113 (nI s)) ( mj_mw (m'.1 113 (nI s).toNatClampNeg) (fun x9 => if (nI w') = 0 then f_X9_says_100 N (nI s) (nI w') m' else (if (nI w') = x9 then f_X9_says_100 N (nI s) (nI w') m' else (if (nI w') = 1 then (if x9 = 3 then f_X9_says_100 N (nI s) (nI w') m' else f_X9_says_83 N (nI s) (nI w') x9 m') else f_X9_says_83 N (nI s) (nI w') x9 m')))))))) := fun m' => by
    unfold f_X9_says
    rw [a9, bind_some', if_neg (by decide), if_neg (nI_pos (by omega)), if_pos (show nI w' ≤ 6 from (nI_le (by omega) (by omega) : nI w' ≤ nI 6))]
  have f8 : f_X8_says N (nI s) (nI w') m = (f_X6_isRow N (79 + 2 * s) m).bind (fun r6 => if r6 = 0 then ((f_X6_isRule N (79 + 2 * s) m).bind (fun r8 => if r8 = 0 then f_X8_says_58 N (nI w') (79 + 2 * s) m else ((f_X8_isUnder N (m.1 (79 + 2 * s) 1) (nI w') m).bind (fun r10 => if r10 = 0 then f_X8_says_52 N m else f_X8_says_58 N (nI w') (79 + 2 * s) m)))) else f_X8_says_52 N m) := by
    unfold f_X8_says
    rw [a, bind_some', if_neg (by decide), b, bind_some', if_neg (by decide), mj_ck_t (bb_35 hs), nI_clamp (by omega)]
  have e82 : f_X8_says_52 N m = some (-2, rfu m 2) := by unfold f_X8_says_52; rw [rf8_2]; rfl
  have r110 : ∀ j : Nat, (rfu m j).1 110 s = m.1 110 s := fun j => wI_n (by omega)
  have r113 : ∀ j : Nat, (rfu m j).1 113 s = m.1 113 s := fun j => wI_n (by omega)
  rcases sh_cases (RS_of h s hs) with c | ⟨o, n, c⟩ | ⟨k, x, c⟩
  · obtain ⟨c1, c2⟩ := is_N hs c.2.1 N
    refine ⟨-3, rfu m 3, _, ?_, ?_, Rel_rf h 3⟩
    · rw [f8, c2, bind_some', if_pos rfl, c1, bind_some', if_pos rfl]
      unfold f_X8_says_58
      rw [c1, bind_some', mj_ck_t (o6 hs), if_pos rfl, rf8_3]; rfl
    · rw [f9, mj_ck_t (bb_110 hs), nI_clamp (by omega), r110, c.1, if_neg (by decide), if_pos rfl, rf9_3]; rfl
  · obtain ⟨c1, c2⟩ := is_Row hs c.1 c.2.2.2.2.2.1 N
    refine ⟨-2, rfu m 2, _, ?_, ?_, Rel_rf h 2⟩
    · rw [f8, c2, bind_some', if_neg (by decide)]; exact e82
    · rw [f9, mj_ck_t (bb_110 hs), nI_clamp (by omega), r110, c.2.2.1, if_pos rfl, rf9_2]; rfl
  obtain ⟨e, n, ru⟩ := Ru_of c
  have ru' := ru
  obtain ⟨h0, q1, q2, q3, q4, q5, q6, q7, q8⟩ := ru'
  obtain ⟨c1, c2⟩ := is_Rule hs h0 q3 N
  have f8' : f_X8_says N (nI s) (nI w') m = (f_X8_isUnder N (nI k) (nI w') m).bind (fun r10 => if r10 = 0 then f_X8_says_52 N m else f_X8_says_58 N (nI w') (79 + 2 * s) m) := by
    rw [f8, c2, bind_some', if_pos rfl, c1, bind_some', if_neg (by decide), q3]
  have g9 : ∀ m' : mj_m, (∀ b j, (b = 110 ∨ b = 113) → m'.1 b j = m.1 b j) → f_X9_says N (nI s) (nI w') m' = if (nI w') = 0 then f_X9_says_100 N (nI s) (nI w') m' else (if (nI w') = nI k then f_X9_says_100 N (nI s) (nI w') m' else (if (nI w') = 1 then (if nI k = 3 then f_X9_says_100 N (nI s) (nI w') m' else f_X9_says_83 N (nI s) (nI w') (nI k) m') else f_X9_says_83 N (nI s) (nI w') (nI k) m')) := fun m' q => by
    rw [f9, mj_ck_t (bb_110 hs), nI_clamp (by omega), q 110 s (by omega), q7, if_neg (by decide), if_neg (by decide), mj_ck_t (bb_113 hs), q 113 s (by omega), q5, mw_eq]
  have ne : ∀ {x y : Nat}, x < 7 → y < 7 → x ≠ y → ¬ nI x = nI y := fun h1 h2 h3 z => h3 ((nI_eq (by omega) (by omega)).mp z)
  rcases isUn (m := m) h0 hw (show 10 ≤ N by omega) with ⟨ud, un⟩ | ⟨nu, un⟩
  · have g9' : ∀ m' : mj_m, (∀ b j, (b = 110 ∨ b = 113) → m'.1 b j = m.1 b j) → f_X9_says N (nI s) (nI w') m' = f_X9_says_100 N (nI s) (nI w') m' := fun m' q => by
      rw [g9 m' q]
      by_cases z0 : w' = 0
      · rw [if_pos (by rw [z0]; rfl)]
      · rw [if_neg (show ¬ nI w' = 0 from ne (y := 0) hw (by omega) z0)]
        by_cases zk : w' = k
        · rw [if_pos (by rw [zk])]
        · rw [if_neg (ne hw h0 zk)]
          rcases ud with y | y | ⟨y1, y2⟩ | ⟨y1, y2⟩
          · exact absurd y z0
          · exact absurd y zk
          · rw [if_pos (by rw [y1]; rfl), if_pos (by rw [y2]; rfl)]
          · rw [if_neg (by rw [y1]; decide)]
            unfold f_X9_says_83
            rw [if_pos (by rw [y1]; rfl), if_pos (by rw [y2]; rfl)]
    have eE : ∀ m' : mj_m, Eqs okA m m' → ∀ b j, (b = 110 ∨ b = 113) → m'.1 b j = m.1 b j := fun m' q b j z => q.1 b j (by unfold okA okN; omega)
    have f58 : f_X8_says N (nI s) (nI w') m = f_X8_says_58 N (nI w') (79 + 2 * s) m := by rw [f8', un, bind_some', if_neg (by decide)]
    have ll := ordL_len gh k x e n
    have ol := ordL_ok gh k x e n
    obtain ⟨m1, x1, x2, x3⟩ := arrange8 hG h1.2.1 hs ru (Or.inl rfl) hN
    have e1 := Pd_E x3
    have r1 : RT m1 t u := RT_S h1 e1
    obtain ⟨m2, y1, y2, y3⟩ := orders9 hG r1.2.2 hs (Ru_A hs ru e1) hN
    have big : w' = 1 ∨ w' = 2 ∨ w' = 3 ∨ w' = 5 → ∃ v : Int32, f_X8_says_58 N (nI w') (79 + 2 * s) m = some (v, m1) ∧ f_X9_says_100 N (nI s) (nI w') m1 = some (v, m2) := by
      intro hw5
      have c112 : f_X8_says_112 N (79 + 2 * s) m = some (if (ordL t k x e n).length = 0 then -1 else nI (gd (ordL t k x e n) 0), m1) := by
        unfold f_X8_says_112
        rw [x1, bind_some']
        dsimp only
        by_cases z : (ordL t k x e n).length = 0
        · rw [if_pos z, z, if_pos (by decide)]
        · rw [if_neg z, if_neg (show ¬ nI (ordL t k x e n).length ≤ 0 from (nI_ge (show 0 < (ordL t k x e n).length by omega) (by omega) : ¬ nI (ordL t k x e n).length ≤ nI 0)), mj_ck_t (by decide)]
          show some (m1.1 78 0, m1) = _
          rw [x2 0 (by omega)]
      have c138 : f_X8_says_138 N (79 + 2 * s) m = some (if (ordL t k x e n).length = 0 then -1 else nI (gd (ordL t k x e n) ((ordL t k x e n).length - 1)), m1) := by
        unfold f_X8_says_138
        rw [x1, bind_some']
        unfold f_X8_lastPlace f_X8_lastPlace_21
        by_cases z : (ordL t k x e n).length = 0
        · rw [if_pos z]
          dsimp only
          rw [z, if_pos (by decide)]; rfl
        · obtain ⟨d, hd⟩ : ∃ d, (ordL t k x e n).length = d + 1 := ⟨(ordL t k x e n).length - 1, by omega⟩
          rw [if_neg z]
          dsimp only
          rw [hd, if_neg (show ¬ nI (d + 1) ≤ 0 from (nI_ge (show 0 < d + 1 by omega) (by omega) : ¬ nI (d + 1) ≤ nI 0)), if_neg (show ¬ 10 < nI (d + 1) from (nI_nlt (by omega) (by omega) : ¬ nI 10 < nI (d + 1))), nI_pred, mj_ck_t (bb_78 (by omega)), nI_clamp (by omega), bind_some', x2 d (by omega), show d + 1 - 1 = d by omega]
      have d0 : nI (ordL t k x e n).length = 0 ↔ (ordL t k x e n).length = 0 := nI_z (by omega)
      have l198 : (ordL t k x e n).length ≠ 0 → f_X9_says_198 N m2 = some (nI (gd (ordL t k x e n) 0), m2) := fun z => by
        unfold f_X9_says_198
        rw [mj_ck_t (by decide)]
        show some (m2.1 123 0, m2) = _
        rw [y2.1 0 (by omega)]
      have llast : (ordL t k x e n).length ≠ 0 → mj_ck (mj_b 0 123 (nI (ordL t k x e n).length - 1)) (some (m2.1 123 (nI (ordL t k x e n).length - 1).toNatClampNeg, m2)) = some (nI (gd (ordL t k x e n) ((ordL t k x e n).length - 1)), m2) := fun z => by
        obtain ⟨d, hd⟩ : ∃ d, (ordL t k x e n).length = d + 1 := ⟨(ordL t k x e n).length - 1, by omega⟩
        rw [hd, nI_pred, mj_ck_t (bb_123 (by omega)), nI_clamp (by omega), y2.1 d (by omega), show d + 1 - 1 = d by omega]
      have h100 : w' ≠ 0 → w' ≠ 6 → w' ≠ 4 → f_X9_says_100 N (nI s) (nI w') m1 = if (ordL t k x e n).length = 0 then some (-1, m2) else if nI w' = 1 then f_X9_says_198 N m2 else if nI w' = 3 then f_X9_says_198 N m2 else mj_ck (mj_b 0 123 (nI (ordL t k x e n).length - 1)) (some (m2.1 123 (nI (ordL t k x e n).length - 1).toNatClampNeg, m2)) := fun z0 z6 z4 => by
        unfold f_X9_says_100
        rw [if_neg (show ¬ nI w' = 0 from ne (y := 0) hw (by omega) z0), if_neg (show ¬ nI w' = 6 from ne (y := 6) hw (by omega) z6), if_neg (show ¬ nI w' = 4 from ne (y := 4) hw (by omega) z4), y1, bind_some', y2.2.1]
        by_cases z : (ordL t k x e n).length = 0
        · rw [if_pos (d0.mpr z), if_pos z]
        · rw [if_neg (fun y => z (d0.mp y)), if_neg z]
      have s58 : f_X8_says_58 N (nI w') (79 + 2 * s) m = if nI w' = 1 then f_X8_says_112 N (79 + 2 * s) m else if nI w' = 2 then f_X8_says_138 N (79 + 2 * s) m else if nI w' = 3 then f_X8_says_112 N (79 + 2 * s) m else if nI w' = 4 then ((f_X7_countUpToCost N (m.1 (79 + 2 * s) 3) m).bind (fun r8 => some (r8, m))) else if nI w' = 5 then f_X8_says_138 N (79 + 2 * s) m else if nI w' = 6 then (some (m.1 (79 + 2 * s) 2, m)) else (some (m.1 (79 + 2 * s) 3, m)) := by
        unfold f_X8_says_58
        rw [c1, bind_some', mj_ck_t (o6 hs), if_neg (by decide)]
      rw [s58, h100 (by omega) (by omega) (by omega)]
      rcases hw5 with rfl | rfl | rfl | rfl
      · refine ⟨if (ordL t k x e n).length = 0 then -1 else nI (gd (ordL t k x e n) 0), by rw [if_pos (by rfl), c112], ?_⟩
        by_cases z : (ordL t k x e n).length = 0
        · rw [if_pos z, if_pos z]
        · rw [if_neg z, if_neg z, if_pos (by rfl), l198 z]
      · refine ⟨if (ordL t k x e n).length = 0 then -1 else nI (gd (ordL t k x e n) ((ordL t k x e n).length - 1)), by rw [if_neg (by decide), if_pos (by rfl), c138], ?_⟩
        by_cases z : (ordL t k x e n).length = 0
        · rw [if_pos z, if_pos z]
        · rw [if_neg z, if_neg z, if_neg (by decide), if_neg (by decide), llast z]
      · refine ⟨if (ordL t k x e n).length = 0 then -1 else nI (gd (ordL t k x e n) 0), by rw [if_neg (by decide), if_neg (by decide), if_pos (by rfl), c112], ?_⟩
        by_cases z : (ordL t k x e n).length = 0
        · rw [if_pos z, if_pos z]
        · rw [if_neg z, if_neg z, if_neg (by decide), if_pos (by rfl), l198 z]
      · refine ⟨if (ordL t k x e n).length = 0 then -1 else nI (gd (ordL t k x e n) ((ordL t k x e n).length - 1)), by rw [if_neg (by decide), if_neg (by decide), if_neg (by decide), if_neg (by decide), if_pos (by rfl), c138], ?_⟩
        by_cases z : (ordL t k x e n).length = 0
        · rw [if_pos z, if_pos z]
        · rw [if_neg z, if_neg z, if_neg (by decide), if_neg (by decide), llast z]
    have s58 : f_X8_says_58 N (nI w') (79 + 2 * s) m = if nI w' = 1 then f_X8_says_112 N (79 + 2 * s) m else if nI w' = 2 then f_X8_says_138 N (79 + 2 * s) m else if nI w' = 3 then f_X8_says_112 N (79 + 2 * s) m else if nI w' = 4 then ((f_X7_countUpToCost N (m.1 (79 + 2 * s) 3) m).bind (fun r8 => some (r8, m))) else if nI w' = 5 then f_X8_says_138 N (79 + 2 * s) m else if nI w' = 6 then (some (m.1 (79 + 2 * s) 2, m)) else (some (m.1 (79 + 2 * s) 3, m)) := by
      unfold f_X8_says_58
      rw [c1, bind_some', mj_ck_t (o6 hs), if_neg (by decide)]
    rcases (by omega : (w' = 1 ∨ w' = 2 ∨ w' = 3 ∨ w' = 5) ∨ w' = 0 ∨ w' = 4 ∨ w' = 6) with z | z | z | z
    · obtain ⟨v, v1, v2⟩ := big z
      exact ⟨v, m1, m2, f58.trans v1, (g9' m1 (eE m1 e1)).trans v2, Rel_S h (Eqs_t e1 y3)⟩
    · refine ⟨nI x, m, m, ?_, ?_, h⟩
      · rw [f58, s58, z, if_neg (by decide), if_neg (by decide), if_neg (by decide), if_neg (by decide), if_neg (by decide), if_neg (by decide), q4]
      · rw [g9' m (fun _ _ _ => rfl), z]
        unfold f_X9_says_100
        rw [if_pos (by rfl), mj_ck_t (bb_114 hs), nI_clamp (by omega), q6]
    · refine ⟨nI (ctN t x (t 13 1)), m, m, ?_, ?_, h⟩
      · rw [f58, s58, z, if_neg (by decide), if_neg (by decide), if_neg (by decide), if_pos (by rfl), q4, count8 hG h1.2.1 q1 (by omega)]; rfl
      · rw [g9' m (fun _ _ _ => rfl), z]
        unfold f_X9_says_100
        rw [if_neg (by decide), if_neg (by decide), if_pos (by rfl), count9 hG h1.2.2 hs q1 q6 (by omega)]
    · have k6 : k = 6 := by unfold und at ud; omega
      obtain ⟨z1, z2, -⟩ := q8 k6
      refine ⟨nI n, m, m, ?_, ?_, h⟩
      · rw [f58, s58, z, if_neg (by decide), if_neg (by decide), if_neg (by decide), if_neg (by decide), if_neg (by decide), if_pos (by rfl), z1]
      · rw [g9' m (fun _ _ _ => rfl), z]
        unfold f_X9_says_100
        rw [if_neg (by decide), if_pos (by rfl), mj_ck_t (bb_112 hs), nI_clamp (by omega), z2]
  · refine ⟨-2, rfu m 2, _, ?_, ?_, Rel_rf h 2⟩
    · rw [f8', un, bind_some', if_pos rfl]; exact e82
    · have z93 : f_X9_says_93 N (rfu m 2) = some (-2, rfm (rfu m 2) 2) := by unfold f_X9_says_93; rw [rf9_2]; rfl
      have z83 : f_X9_says_83 N (nI s) (nI w') (nI k) (rfu m 2) = some (-2, rfm (rfu m 2) 2) := by
        unfold f_X9_says_83
        by_cases z : w' = 2
        · rw [if_pos (by rw [z]; rfl), if_neg (show ¬ nI k = 5 from ne (y := 5) h0 (by omega) (fun y => nu (by unfold und; omega)))]; exact z93
        · rw [if_neg (ne2 (by omega) z)]; exact z93
      rw [g9 (rfu m 2) (fun b j z => wI_n (by omega)), if_neg (show ¬ nI w' = 0 from ne (y := 0) hw (by omega) (fun y => nu (by unfold und; omega))), if_neg (ne hw h0 (fun y => nu (by unfold und; omega)))]
      by_cases z : w' = 1
      · rw [if_pos (by rw [z]; rfl), if_neg (show ¬ nI k = 3 from ne (y := 3) h0 (by omega) (fun y => nu (by unfold und; omega)))]; exact z83
      · rw [if_neg (show ¬ nI w' = 1 from ne (y := 1) hw (by omega) z)]; exact z83
