/-! THE CALLS, further: bound -/
def mx1 (t : aT) : Nat → Nat := fun i => if 1 < t 7 i then t 7 i else 1
theorem mx1_le {t : aT} (hG : Good t) {i : Nat} (hi : i < t 13 1) : mx1 t i ≤ 2 := by
  have sl := st_le hG hi
  unfold mx1
  by_cases w : 1 < t 7 i
  · rw [if_pos w]; exact sl
  · rw [if_neg w]; omega
theorem mx1_add (t : aT) {i : Nat} : nI (t 7 i) + nI (if t 7 i = 0 then 1 else 0) = nI (mx1 t i) := by
  unfold mx1
  by_cases q : t 7 i = 0
  · rw [q]; rfl
  · rw [if_neg q]
    by_cases w : 1 < t 7 i
    · rw [if_pos w]; exact (by intro x; grind : ∀ x : Int32, x + 0 = x) _
    · rw [if_neg w, show t 7 i = 1 by omega]; rfl
theorem mx1_sub (t : aT) {i : Nat} : nI (mx1 t i) - nI (if t 7 i = 0 then 1 else 0) = nI (t 7 i) := by
  rw [← mx1_add]; exact (by intro x y; grind : ∀ x y : Int32, x + y - y = x) _ _
theorem bound8 {m : mj_m} {t : aT} {u : Nat → Int32} (hG : Good t) (g : Rep (cg m 1 8) t u) (v : Int32) {N : Nat} (hN : 1100 ≤ N) : ∃ m', f_X4_boundOf N v m = some (v.toInt64 * YM t (mx1 t), m') ∧ Pd m m' := by
  have gh := GH hG
  obtain ⟨s, ⟨-, r2, r3⟩, r5⟩ := lp_cnt (B := f_X4_boundOf_2 N v) (E := fun s => ((f_X2_weighYear N s.2).bind (fun r2 => (f_X2_meanBy N 50 r2).bind (fun r3 => some ((v.toInt64) * r3.1, r3.2))))) (c := 10) (N := N) (s0 := ((0 : Int32), m)) (fun i s => s.1 = nI i ∧ (∀ j, j < i → j < t 13 1 → s.2.1 50 j = nI (mx1 t j)) ∧ Pd m s.2) (by omega)
    ⟨rfl, fun j hj => absurd hj (Nat.not_lt_zero j), Pd_r m⟩
    (fun i s hi ⟨e1, e2, e3⟩ => by
      refine ⟨(nI (i + 1), mj_wI s.2 50 i (if 1 < s.2.1 5 i then s.2.1 5 i else 1)), ⟨rfl, fun j hj hj2 => ?_, Pd_w e3 (by omega)⟩, fun κ => ?_⟩
      · by_cases y : j = i
        · rw [y, wI_e]
          rw [y] at hj2
          have x5 : s.2.1 5 i = nI (t 7 i) := x_steps (Pd_c hG g e3) hj2
          rw [x5]
          unfold mx1
          have sl := st_le hG hj2
          by_cases w : 1 < t 7 i
          · rw [if_pos w, if_pos (show 1 < nI (t 7 i) from (nI_lt w (by omega) : nI 1 < nI (t 7 i)))]
          · rw [if_neg w, if_neg (show ¬ 1 < nI (t 7 i) from (nI_nlt (by omega) (by omega) : ¬ nI 1 < nI (t 7 i)))]; rfl
        · rw [wI_n (by omega)]; exact e2 j (by omega) hj2
      · unfold f_X4_boundOf_2
        rw [e1, if_neg (show ¬ 10 ≤ nI i from (nI_ge hi (by omega) : ¬ nI 10 ≤ nI i)), mj_ck_t (bb_5 hi), mj_ck_t (bb_50 hi), nI_clamp (by omega), mw_eq, mw_eq, nI_succ])
    (fun s ⟨e1, _, _⟩ κ => by
      unfold f_X4_boundOf_2
      rw [e1, if_pos (show (10 : Int32) ≤ nI 10 by decide)])
  obtain ⟨m2, a1, a2, a3⟩ := weighYear8 hG (Pd_c hG g r3) hN
  have p2 := Pd_t r3 (Od_P a3)
  obtain ⟨m3, b1, b2⟩ := meanY8 hG (Pd_c hG g p2) a2 (A := 50) (st := mx1 t) (by decide) ⟨fun i hi => bb_50 hi, fun i hi => ⟨by rw [a3.1 50 i (by omega)]; exact r2 i (by omega) hi, mx1_le hG hi⟩⟩ hN
  refine ⟨m3, ?_, Pd_t p2 (Od_P (Os_O b2))⟩
  unfold f_X4_boundOf
  rw [r5, a1, bind_some', b1]; rfl
theorem bound9 {m : mj_m} {t : aT} {u : Nat → Int32} (hG : Good t) (g : Rep (mg m) t u) (v : Int32) {N : Nat} (hN : 1100 ≤ N) : ∃ m', mj_lp N (f_X9_bound_20 N v m) (0, 0) = some (v.toInt64 * YM t (mx1 t), m') ∧ Eqs okA m m' := by
  have gh := GH hG
  obtain ⟨s, ⟨-, b, r2, r3⟩, r5⟩ := lp_cnt (B := f_X9_bound_20 N v m) (E := fun s => mj_lp N (f_X9_bound_54 N v s.1) (0, m)) (c := t 13 1) (N := N) (s0 := ((0 : Int32), (0 : Int32))) (fun i s => s.2 = nI i ∧ ∃ b, s.1 = nI b ∧ bitsL b (opL t i)) (by omega)
    ⟨rfl, 0, rfl, bits_0⟩
    (fun i s hi ⟨e1, b, e2, e3⟩ => by
      have v8 := y_steps g hi
      have sl := st_le hG hi
      by_cases q : t 7 i = 0
      · refine ⟨(nI (b ||| 2 ^ i), nI (i + 1)), ⟨rfl, _, rfl, by rw [opL_s, if_pos q]; exact bits_s e3 (by omega)⟩, fun κ => ?_⟩
        unfold f_X9_bound_20 f_X9_bound_46
        rw [y_houses g, e1, e2, if_neg (nI_ge hi (by omega)), mj_ck_t (bb_108 (by omega)), nI_clamp (by omega), v8, q, if_pos (by decide), mw_eq, mw_eq, n_shl i (by omega), n_or, nI_succ]
      · refine ⟨(nI b, nI (i + 1)), ⟨rfl, b, rfl, by rw [opL_s, if_neg q]; exact e3⟩, fun κ => ?_⟩
        unfold f_X9_bound_20 f_X9_bound_46
        rw [y_houses g, e1, e2, if_neg (nI_ge hi (by omega)), mj_ck_t (bb_108 (by omega)), nI_clamp (by omega), v8, if_neg (show ¬ nI (t 7 i) ≤ 0 from (nI_ge (by omega) (by omega) : ¬ nI (t 7 i) ≤ nI 0)), mw_eq, nI_succ])
    (fun s ⟨e1, _⟩ κ => by
      unfold f_X9_bound_20
      rw [y_houses g, e1, if_pos (nI_le (by omega) (by omega))])
  have hb : ∀ i, i < t 13 1 → (nI b >>> (nI i &&& 31)) &&& 1 = nI (if t 7 i = 0 then 1 else 0) := fun i hi => by
    rw [n_bit b (by omega), r3.2 i (by omega)]
    by_cases q : t 7 i = 0
    · rw [decide_eq_true ((opL_mem t i _).mpr ⟨hi, q⟩), if_pos rfl, if_pos q]; rfl
    · rw [decide_eq_false (fun z => q ((opL_mem t i _).mp z).2), if_neg (by decide), if_neg q]; rfl
  obtain ⟨z, ⟨-, z2, z3, z4⟩, z5⟩ := lp_cnt (B := f_X9_bound_54 N v (nI b)) (E := fun s => ((f_X9_meanOf N s.2).bind (fun r2 => mj_mw ((v.toInt64) * r2.1) (fun x3 => mj_lp N (f_X9_bound_93 N (nI b) x3) (0, r2.2))))) (c := t 13 1) (N := N) (s0 := ((0 : Int32), m)) (fun i s => s.1 = nI i ∧ (∀ j, j < t 13 1 → s.2.1 108 j = nI (if j < i then mx1 t j else t 7 j)) ∧ (∀ A K, ¬ (A = 108 ∧ K < t 13 1) → s.2.1 A K = m.1 A K) ∧ s.2.2 = m.2) (by omega)
    ⟨rfl, fun j hj => by rw [if_neg (by omega)]; exact y_steps g hj, fun _ _ _ => rfl, rfl⟩
    (fun i s hi ⟨e1, e2, e3, e4⟩ => by
      have vh : s.2.1 95 1 = nI (t 13 1) := (e3 95 1 (by omega)).trans (y_houses g)
      have v8 := e2 i hi
      rw [if_neg (by omega)] at v8
      refine ⟨(nI (i + 1), mj_wI s.2 108 i (nI (mx1 t i))), ⟨rfl, fun j hj => ?_, fun A K q => by rw [wI_n (by omega)]; exact e3 A K q, e4⟩, fun κ => ?_⟩
      · by_cases y : j = i
        · rw [y, wI_e, if_pos (by omega)]
        · rw [wI_n (by omega), e2 j hj]
          by_cases y2 : j < i
          · rw [if_pos y2, if_pos (by omega)]
          · rw [if_neg y2, if_neg (by omega)]
      · unfold f_X9_bound_54
        rw [vh, e1, if_neg (nI_ge hi (by omega)), mj_ck_t (bb_108 (by omega)), nI_clamp (by omega), v8, hb i hi, mx1_add, mw_eq, mw_eq, nI_succ])
    (fun s ⟨e1, _, e3, _⟩ κ => by
      have vh : s.2.1 95 1 = nI (t 13 1) := (e3 95 1 (by omega)).trans (y_houses g)
      unfold f_X9_bound_54
      rw [vh, e1, if_pos (nI_le (by omega) (by omega))])
  have ez : Ez m z.2 := ⟨fun a k _ q => z3 a k (by omega), fun a k _ => by rw [z4]⟩
  have hs : ∀ i, i < t 13 1 → z.2.1 108 i = nI (mx1 t i) := fun i hi => by rw [z2 i hi, if_pos hi]
  have gI : Good (tS t (mx1 t)) := Good_tS hG (fun j hj => mx1_le hG hj)
  have g2 := Ez_S (st := mx1 t) hG g ez hs
  obtain ⟨m2, c1, c2, c3, c4⟩ := worthsY9 gI g2 hN
  obtain ⟨m3, d1, d2, d3⟩ := meanY9 gI (RT_m gI g2 (fun a k _ => by rw [c3])) c2 hN
  rw [tS_7, YM_c (fun f q => tS_o t _ q)] at d1
  have m31 : m3.1 = z.2.1 := d2.trans c3
  obtain ⟨y, ⟨-, y2, y3, y4⟩, y5⟩ := lp_cnt (B := f_X9_bound_93 N (nI b) (v.toInt64 * YM t (mx1 t))) (E := fun s => some (v.toInt64 * YM t (mx1 t), s.2)) (c := t 13 1) (N := N) (s0 := ((0 : Int32), m3)) (fun i s => s.1 = nI i ∧ (∀ j, j < t 13 1 → s.2.1 108 j = nI (if j < i then t 7 j else mx1 t j)) ∧ (∀ A K, ¬ (A = 108 ∧ K < t 13 1) → s.2.1 A K = m.1 A K) ∧ s.2.2 = m3.2) (by omega)
    ⟨rfl, fun j hj => by rw [if_neg (by omega), m31]; exact hs j hj, fun A K q => by rw [m31]; exact z3 A K q, rfl⟩
    (fun i s hi ⟨e1, e2, e3, e4⟩ => by
      have vh : s.2.1 95 1 = nI (t 13 1) := (e3 95 1 (by omega)).trans (y_houses g)
      have v8 := e2 i hi
      rw [if_neg (by omega)] at v8
      refine ⟨(nI (i + 1), mj_wI s.2 108 i (nI (t 7 i))), ⟨rfl, fun j hj => ?_, fun A K q => by rw [wI_n (by omega)]; exact e3 A K q, e4⟩, fun κ => ?_⟩
      · by_cases y : j = i
        · rw [y, wI_e, if_pos (by omega)]
        · rw [wI_n (by omega), e2 j hj]
          by_cases y2 : j < i
          · rw [if_pos y2, if_pos (by omega)]
          · rw [if_neg y2, if_neg (by omega)]
      · unfold f_X9_bound_93
        rw [vh, e1, if_neg (nI_ge hi (by omega)), mj_ck_t (bb_108 (by omega)), nI_clamp (by omega), v8, hb i hi, mx1_sub, mw_eq, mw_eq, nI_succ])
    (fun s ⟨e1, _, e3, _⟩ κ => by
      have vh : s.2.1 95 1 = nI (t 13 1) := (e3 95 1 (by omega)).trans (y_houses g)
      unfold f_X9_bound_93
      rw [vh, e1, if_pos (nI_le (by omega) (by omega))])
  refine ⟨y.2, ?_, fun a k q => ?_, fun a k q => ?_⟩
  · rw [r5, r2, show ∀ x : Int32, mj_lp N (f_X9_bound_54 N v x) (0, m) = mj_lp N (f_X9_bound_54 N v x) (0, m) from fun _ => rfl, z5]
    unfold f_X9_meanOf
    rw [c1, bind_some', d1, bind_some', bind_some', mw_eq]
    exact y5
  · by_cases w : a = 108 ∧ k < t 13 1
    · rw [w.1, y2 k w.2, if_pos w.2]; exact (y_steps g w.2).symm
    · exact y3 a k w
  · unfold okL at q
    rw [y4, d3 a k (by omega), c4 a k (by omega), z4]
theorem ca_bound {m : mj_m} (h : Rel m) {N : Nat} (hN : 1100 ≤ N) (v : Int32) : BothL (f_X8_bound N v) (f_X9_bound N v) m := by
  obtain ⟨t, u, h1⟩ := h.1
  have hG := h1.1
  rcases yrs8 N v m with y | ⟨n, n1, n2, rfl, y⟩
  · refine ⟨(-6 : Int32).toInt64, rfu m 6, _, ?_, ?_, Rel_rf h 6⟩
    · unfold f_X8_bound; rw [y, bind_some', if_pos rfl, rf8_6]; rfl
    · unfold f_X9_bound; rw [yrs9 N v m, y, bind_some', if_pos rfl, rf9_6]; rfl
  obtain ⟨m1, x1, x2⟩ := bound8 hG h1.2.1 (nI n) hN
  have e1 := Pd_E x2
  have r1 : RT m1 t u := RT_S h1 e1
  obtain ⟨m2, y1, y2⟩ := bound9 hG r1.2.2 (nI n) hN
  refine ⟨(nI n).toInt64 * YM t (mx1 t), m1, m2, ?_, ?_, Rel_S h (Eqs_t e1 y2)⟩
  · unfold f_X8_bound; rw [y, bind_some', if_neg (by decide), x1]; rfl
  · unfold f_X9_bound; rw [yrs9 N (nI n) m, y, bind_some', if_neg (by decide)]; exact y1
