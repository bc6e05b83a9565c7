/-! THE CALLS, further: copy -/
theorem shelf_of {N : Nat} {s : Nat} (hs : s < 8) (m : mj_m) : f_X8_isShelf N (nI s) m = some 1 := by
  unfold f_X8_isShelf
  rw [if_neg (nI_pos (by omega)), if_neg (show ¬ 8 ≤ nI s from (nI_ge hs (by omega) : ¬ nI 8 ≤ nI s))]
/-- a range of a row -/
theorem range8 {m : mj_m} {s n : Nat} (hs : s < 8) (h : m.1 (79 + 2 * s) 2 = nI n) (hn : n ≤ 120) (N : Nat) (v : Int32) {c : Nat} (hc : c < 2 ^ 31) : (f_X6_hasRange N (79 + 2 * s) v (nI c) m = some 0 ∧ (v < 0 ∨ nI n - nI c < v)) ∨ ∃ j, j + c ≤ n ∧ v = nI j ∧ f_X6_hasRange N (79 + 2 * s) v (nI c) m = some 1 ∧ ¬ nI n - nI c < v := by
  unfold f_X6_hasRange f_X6_hasRange_30
  by_cases h0 : v < 0
  · rw [if_pos h0]; exact Or.inl ⟨rfl, Or.inl h0⟩
  rw [if_neg h0, if_neg (nI_pos hc), mj_ck_t (o6 hs), h]
  obtain ⟨j, hj, rfl⟩ := nI_of h0
  have e : (nI n - nI c).toInt = (n : Int) - c := by
    rw [Int32.toInt_sub, nI_toInt (by omega), nI_toInt hc]
    apply Int.bmod_eq_of_le <;> omega
  by_cases h1 : nI n < nI c
  · rw [if_pos h1]
    refine Or.inl ⟨rfl, Or.inr ?_⟩
    rw [Int32.lt_iff_toInt_lt] at h1 ⊢
    rw [nI_toInt (by omega), nI_toInt hc] at h1
    rw [e, nI_toInt hj]
    omega
  rw [if_neg h1]
  rw [Int32.lt_iff_toInt_lt, nI_toInt (by omega), nI_toInt hc] at h1
  by_cases h2 : nI n - nI c < nI j
  · rw [if_pos h2]; exact Or.inl ⟨rfl, Or.inr h2⟩
  · rw [if_neg h2]
    refine Or.inr ⟨j, ?_, rfl, rfl, h2⟩
    rw [Int32.lt_iff_toInt_lt, e, nI_toInt hj] at h2
    omega
theorem at9b {s i k : Nat} : (120 : Int32) * nI s + nI i + nI k = nI (120 * s + i + k) := by rw [at9, nI_add]
theorem copy9b {q j n : Nat} (hq : q < 8) (hn : j + n ≤ 120) {N : Nat} (hN : 200 ≤ N) (m : mj_m) : mj_lp N (f_X9_copy_204 N (nI q) (nI j) (nI n)) (0, m) = some (1, wsL m 115 (120 * q + j) (fun k => m.2 116 k) n) := by
  refine lp_for (fun i => (nI i, wsL m 115 (120 * q + j) (fun k => m.2 116 k) i)) (c := n) (by omega) (fun i hi k => ?_) (fun k => ?_)
  · show (if nI n ≤ nI i then _ else _) = _
    rw [if_neg (nI_ge hi (by omega)), at9b, mj_ck_t (bb_116 (by omega)), mj_ck_t (bb_115 (by omega)), nI_clamp (by omega), nI_clamp (by omega), mw_eq, mw_eq, ← nI_succ]
    dsimp only
    rw [wsL_2, if_neg (by omega)]
    rfl
  · show (if nI n ≤ nI n then _ else _) = _
    rw [if_pos (nI_le (by omega) (by omega))]
theorem copy9 {p q i j n : Nat} (hp : p < 8) (hq : q < 8) (hi : i + n ≤ 120) (hj : j + n ≤ 120) {N : Nat} (hN : 200 ≤ N) (m : mj_m) : mj_lp N (f_X9_copy_167 N (nI p) (nI q) (nI i) (nI j) (nI n)) (0, m) = some (1, wsL (wsL m 116 0 (fun k => m.2 115 (120 * p + i + k)) n) 115 (120 * q + j) (fun k => (wsL m 116 0 (fun k => m.2 115 (120 * p + i + k)) n).2 116 k) n) := by
  refine lp_for (fun k => (nI k, wsL m 116 0 (fun k => m.2 115 (120 * p + i + k)) k)) (c := n) (by omega) (fun k hk z => ?_) (fun z => ?_)
  · show (if nI n ≤ nI k then _ else _) = _
    rw [if_neg (nI_ge hk (by omega)), at9b, mj_ck_t (bb_116 (by omega)), mj_ck_t (bb_115 (by omega)), nI_clamp (by omega), nI_clamp (by omega), mw_eq, mw_eq, ← nI_succ]
    dsimp only
    rw [wsL_2, if_neg (by omega)]
    show z (nI (k + 1), mj_wL (wsL m 116 0 _ k) 116 k _) = z (nI (k + 1), mj_wL (wsL m 116 0 _ k) 116 (0 + k) _)
    rw [Nat.zero_add]
  · show (if nI n ≤ nI n then _ else _) = _
    rw [if_pos (nI_le (by omega) (by omega))]
    exact copy9b hq hj hN _
theorem cpyL (m : mj_m) (a b c d n A K : Nat) : (mj_kL m a b c d n).2 A K = if A = b ∧ d ≤ K ∧ K < d + n then m.2 a (c + (K - d)) else m.2 A K := by
  rw [kL_2, cpy_at]
  by_cases q : A = b
  · subst q
    rw [if_pos rfl]
    by_cases r : d ≤ K ∧ K < d + n
    · rw [if_pos r, if_pos ⟨rfl, r⟩]
    · rw [if_neg r, if_neg (fun z => r z.2)]
  · rw [if_neg q, if_neg (fun z => q z.1)]
theorem shape80 {s : Nat} (hs : s < 8) : mj_sh (80 + 2 * s) = (1, 120) := by
  rcases (by omega : s = 0 ∨ s = 1 ∨ s = 2 ∨ s = 3 ∨ s = 4 ∨ s = 5 ∨ s = 6 ∨ s = 7) with rfl | rfl | rfl | rfl | rfl | rfl | rfl | rfl <;> rfl
theorem mjp {p q i j n : Nat} (hp : p < 8) (hq : q < 8) (hi : i + n ≤ 120) (hj : j + n ≤ 120) : mj_p 1 (80 + 2 * p) (80 + 2 * q) (nI i) (nI j) (nI n) = true := by
  unfold mj_p
  rw [shape80 hp, shape80 hq, nI_toInt (by omega), nI_toInt (by omega), nI_toInt (by omega)]
  simp
  omega
theorem ca_copy {m : mj_m} (h : Rel m) {N : Nat} (hN : 200 ≤ N) (v w i j n : Int32) : Both (f_X8_copy N v w i j n) (f_X9_copy N v w i j n) m := by
  have h5 := h.2.2.2.2.1
  have e81 : f_X8_copy_14 N m = some (-1, rfu m 1) := by unfold f_X8_copy_14; rw [rf8_1]; rfl
  have e82 : f_X8_copy_81 N m = some (-2, rfu m 2) := by unfold f_X8_copy_81; rw [rf8_2]; rfl
  have e83 : f_X8_copy_103 N m = some (-3, rfu m 3) := by unfold f_X8_copy_103; rw [rf8_3]; rfl
  have e85 : f_X8_copy_143 N m = some (-5, rfu m 5) := by unfold f_X8_copy_143; rw [rf8_5]; rfl
  have e91 : f_X9_copy_16 N (rfu m 1) = some (-1, rfm (rfu m 1) 1) := by unfold f_X9_copy_16; rw [rf9_1]; rfl
  have e92 : f_X9_copy_77 N (rfu m 2) = some (-2, rfm (rfu m 2) 2) := by unfold f_X9_copy_77; rw [rf9_2]; rfl
  have e93 : f_X9_copy_102 N (rfu m 3) = some (-3, rfm (rfu m 3) 3) := by unfold f_X9_copy_102; rw [rf9_3]; rfl
  have e95 : f_X9_copy_157 N (rfu m 5) = some (-5, rfm (rfu m 5) 5) := by unfold f_X9_copy_157; rw [rf9_5]; rfl
  rcases isSh N v m with a | ⟨p, hp, rfl, a⟩
  · refine ⟨-1, rfu m 1, _, ?_, ?_, Rel_rf h 1⟩
    · unfold f_X8_copy; rw [a]; exact e81
    · unfold f_X9_copy; rw [isSh9 N v m, a]; exact e91
  rcases isSh N w m with b | ⟨q, hq, rfl, b⟩
  · refine ⟨-1, rfu m 1, _, ?_, ?_, Rel_rf h 1⟩
    · unfold f_X8_copy; rw [a, bind_some', if_neg (by decide), b]; exact e81
    · unfold f_X9_copy; rw [isSh9 N _ m, a, bind_some', if_neg (by decide), isSh9 N _ m, b]; exact e91
  have q8 : f_X8_copy N (nI p) (nI q) i j n m = ((f_X6_isRule N (79 + 2 * p) m).bind (fun r7 => if r7 = 0 then ((f_X6_isRule N (79 + 2 * q) m).bind (fun r9 => if r9 = 0 then ((f_X6_isRow N (79 + 2 * p) m).bind (fun r11 => if r11 = 0 then f_X8_copy_87 N i j n (79 + 2 * p) (79 + 2 * q) m else ((f_X6_isRow N (79 + 2 * q) m).bind (fun r13 => if r13 = 0 then f_X8_copy_87 N i j n (79 + 2 * p) (79 + 2 * q) m else (if (m.1 (79 + 2 * p) 1) = (m.1 (79 + 2 * q) 1) then f_X8_copy_87 N i j n (79 + 2 * p) (79 + 2 * q) m else f_X8_copy_81 N m))))) else f_X8_copy_81 N m)) else f_X8_copy_81 N m)) := by
    unfold f_X8_copy
    rw [a, bind_some', if_neg (by decide), b, bind_some', if_neg (by decide), mj_ck_t (bb_35 hp), mj_ck_t (bb_35 hq), nI_clamp (by omega), nI_clamp (by omega)]
  have q9 : ∀ m' : mj_m, f_X9_copy N (nI p) (nI q) i j n m' = (if m'.1 110 p = 2 then f_X9_copy_77 N m' else if m'.1 110 q = 2 then f_X9_copy_77 N m' else if m'.1 110 p = 1 then (if m'.1 110 q = 1 then (if m'.1 111 p = m'.1 111 q then f_X9_copy_84 N (nI p) (nI q) i j n m' else f_X9_copy_77 N m') else f_X9_copy_84 N (nI p) (nI q) i j n m') else f_X9_copy_84 N (nI p) (nI q) i j n m') := by
    intro m'
    unfold f_X9_copy
    rw [isSh9 N _ m, a, bind_some', if_neg (by decide), isSh9 N _ m, b, bind_some', if_neg (by decide), mj_ck_t (bb_110 hp), mj_ck_t (bb_110 hq), mj_ck_t (bb_111 hp), mj_ck_t (bb_111 hq), nI_clamp (by omega), nI_clamp (by omega)]
  have q94 : ∀ m' : mj_m, f_X9_copy_84 N (nI p) (nI q) i j n m' = (if m'.1 110 p = 0 then f_X9_copy_102 N m' else if m'.1 110 q = 0 then f_X9_copy_102 N m' else if 0 ≤ n then (if i < 0 then f_X9_copy_157 N m' else if j < 0 then f_X9_copy_157 N m' else if m'.1 112 p - n < i then f_X9_copy_157 N m' else if j ≤ m'.1 112 q - n then mj_lp N (f_X9_copy_167 N (nI p) (nI q) i j n) (0, m') else f_X9_copy_157 N m') else ((f_X9_no N (-4 : Int32) m').bind (fun r6 => some (r6.1, r6.2)))) := by
    intro m'
    unfold f_X9_copy_84
    rw [mj_ck_t (bb_110 hp), mj_ck_t (bb_110 hq), mj_ck_t (bb_112 hp), mj_ck_t (bb_112 hq), nI_clamp (by omega), nI_clamp (by omega)]
  have hp5 := h5 p hp
  have hq5 := h5 q hq
  have z110 : ∀ k s, (rfu m k).1 110 s = m.1 110 s := fun _ _ => wI_n (by omega)
  have z111 : ∀ k s, (rfu m k).1 111 s = m.1 111 s := fun _ _ => wI_n (by omega)
  have z112 : ∀ k s, (rfu m k).1 112 s = m.1 112 s := fun _ _ => wI_n (by omega)
  have no2 : f_X8_copy N (nI p) (nI q) i j n m = f_X8_copy_81 N m → f_X9_copy N (nI p) (nI q) i j n (rfu m 2) = f_X9_copy_77 N (rfu m 2) → Both (f_X8_copy N (nI p) (nI q) i j n) (f_X9_copy N (nI p) (nI q) i j n) m := fun y1 y2 => ⟨-2, rfu m 2, _, y1.trans e82, y2.trans e92, Rel_rf h 2⟩
  have no3 : f_X8_copy N (nI p) (nI q) i j n m = f_X8_copy_103 N m → f_X9_copy N (nI p) (nI q) i j n (rfu m 3) = f_X9_copy_102 N (rfu m 3) → Both (f_X8_copy N (nI p) (nI q) i j n) (f_X9_copy N (nI p) (nI q) i j n) m := fun y1 y2 => ⟨-3, rfu m 3, _, y1.trans e83, y2.trans e93, Rel_rf h 3⟩
  have k87 : f_X6_isRow N (79 + 2 * p) m = some 0 → f_X8_copy_87 N i j n (79 + 2 * p) (79 + 2 * q) m = f_X8_copy_103 N m := by
    intro y; unfold f_X8_copy_87; rw [y, bind_some', mj_ck_t (o6 hp), if_pos rfl]
  rcases sh_cases hp5 with x | ⟨o1, n1, x⟩ | ⟨k1, a1, x⟩
  · obtain ⟨r1, r2⟩ := is_N hp x.2.1 N
    rcases sh_cases hq5 with y | ⟨o2, n2, y⟩ | ⟨k2, a2, y⟩
    · obtain ⟨s1, s2⟩ := is_N hq y.2.1 N
      refine no3 ?_ ?_
      · rw [q8, r1, bind_some', if_pos rfl, s1, bind_some', if_pos rfl, r2, bind_some', if_pos rfl, k87 r2]
      · rw [q9, q94]; rw [z110, z110, x.1, y.1]; rfl
    · obtain ⟨s1, s2⟩ := is_Row hq y.1 y.2.2.2.2.2.1 N
      refine no3 ?_ ?_
      · rw [q8, r1, bind_some', if_pos rfl, s1, bind_some', if_pos rfl, r2, bind_some', if_pos rfl, k87 r2]
      · rw [q9, q94]; rw [z110, z110, x.1, y.2.2.1]; rfl
    · obtain ⟨s1, s2⟩ := is_Rule hq y.1 y.2.2.2.1 N
      refine no2 ?_ ?_
      · rw [q8, r1, bind_some', if_pos rfl, s1, bind_some', if_neg (by decide)]
      · rw [q9]; rw [z110, z110, x.1, y.2.1]; rfl
  · obtain ⟨r1, r2⟩ := is_Row hp x.1 x.2.2.2.2.2.1 N
    rcases sh_cases hq5 with y | ⟨o2, n2, y⟩ | ⟨k2, a2, y⟩
    · obtain ⟨s1, s2⟩ := is_N hq y.2.1 N
      refine no3 ?_ ?_
      · rw [q8, r1, bind_some', if_pos rfl, s1, bind_some', if_pos rfl, r2, bind_some', if_neg (by decide), s2, bind_some', if_pos rfl]
        unfold f_X8_copy_87; rw [r2, bind_some', mj_ck_t (o6 hp), if_neg (by decide), s2, bind_some', mj_ck_t (o6 hq), if_pos rfl]
      · rw [q9, q94]; rw [z110, z110, x.2.2.1, y.1]; rfl
    · obtain ⟨s1, s2⟩ := is_Row hq y.1 y.2.2.2.2.2.1 N
      obtain ⟨x1, x2, x3, x4, x5, x6, x7, x8⟩ := x
      obtain ⟨y1, y2, y3, y4, y5, y6, y7, y8⟩ := y
      by_cases o : o1 = o2
      rotate_left
      · refine no2 ?_ ?_
        · rw [q8, r1, bind_some', if_pos rfl, s1, bind_some', if_pos rfl, r2, bind_some', if_neg (by decide), s2, bind_some', if_neg (by decide), x6, y6, if_neg]
          intro e
          exact o (by have := (nI_eq (by omega) (by omega)).mp e; omega)
        · rw [q9]; rw [z110, z110, z111, z111, x3, y3, x4, y4, if_neg (by decide), if_neg (by decide), if_pos rfl, if_pos rfl, if_neg]
          intro e
          exact o ((nI_eq (by omega) (by omega)).mp e)
      subst o
      have k8 : f_X8_copy N (nI p) (nI q) i j n m = if 0 ≤ n then ((f_X6_hasRange N (79 + 2 * p) i n m).bind (fun r8 => if r8 = 0 then f_X8_copy_143 N m else ((f_X6_hasRange N (79 + 2 * q) j n m).bind (fun r10 => if r10 = 0 then f_X8_copy_143 N m else (mj_ck (mj_p 1 (79 + 2 * p + 1) (79 + 2 * q + 1) i j n) ( mj_mw (mj_kL m (79 + 2 * p + 1) (79 + 2 * q + 1) (i.toNatClampNeg) (j.toNatClampNeg) (n.toNatClampNeg)) (fun m13 => some (1, m13)))))))) else ((f_X8_refuse N 4 m).bind (fun r8 => some (r8.1, r8.2))) := by
        rw [q8, r1, bind_some', if_pos rfl, s1, bind_some', if_pos rfl, r2, bind_some', if_neg (by decide), s2, bind_some', if_neg (by decide), x6, y6, if_pos rfl]
        unfold f_X8_copy_87; rw [r2, bind_some', mj_ck_t (o6 hp), if_neg (by decide), s2, bind_some', mj_ck_t (o6 hq), if_neg (by decide)]
      have k9 : ∀ m' : mj_m, m'.1 110 p = 1 → m'.1 110 q = 1 → m'.1 111 p = m'.1 111 q → m'.1 112 p = nI n1 → m'.1 112 q = nI n2 → f_X9_copy N (nI p) (nI q) i j n m' = if 0 ≤ n then (if i < 0 then f_X9_copy_157 N m' else if j < 0 then f_X9_copy_157 N m' else if nI n1 - n < i then f_X9_copy_157 N m' else if j ≤ nI n2 - n then mj_lp N (f_X9_copy_167 N (nI p) (nI q) i j n) (0, m') else f_X9_copy_157 N m') else ((f_X9_no N (-4 : Int32) m').bind (fun r6 => some (r6.1, r6.2))) := by
        intro m' d1 d2 d3 d4 d5
        rw [q9, q94, d1, d2, d3, d4, d5, if_neg (by decide), if_neg (by decide), if_pos rfl, if_pos rfl, if_pos rfl, if_neg (by decide), if_neg (by decide)]
      by_cases hn0 : 0 ≤ n
      rotate_left
      · refine ⟨-4, rfu m 4, _, ?_, ?_, Rel_rf h 4⟩
        · rw [k8, if_neg hn0, rf8_4]; rfl
        · rw [k9 _ (by rw [z110, x3]) (by rw [z110, y3]) (by rw [z111, z111, x4, y4]) (by rw [z112, x5]) (by rw [z112, y5]), if_neg hn0, rf9_4]; rfl
      have hn0' : ¬ n < 0 := fun z => by rw [Int32.le_iff_toInt_le] at hn0; rw [Int32.lt_iff_toInt_lt] at z; omega
      obtain ⟨n, hn, rfl⟩ := nI_of hn0'
      have no5 : f_X8_copy N (nI p) (nI q) i j (nI n) m = f_X8_copy_143 N m → (i < 0 ∨ j < 0 ∨ nI n1 - nI n < i ∨ nI n2 - nI n < j) → Both (f_X8_copy N (nI p) (nI q) i j (nI n)) (f_X9_copy N (nI p) (nI q) i j (nI n)) m := by
        intro w1 w2
        refine ⟨-5, rfu m 5, _, w1.trans e85, ?_, Rel_rf h 5⟩
        rw [k9 _ (by rw [z110, x3]) (by rw [z110, y3]) (by rw [z111, z111, x4, y4]) (by rw [z112, x5]) (by rw [z112, y5]), if_pos hn0, e95]
        by_cases w3 : i < 0
        · rw [if_pos w3]
        by_cases w4 : j < 0
        · rw [if_neg w3, if_pos w4]
        by_cases w5 : nI n1 - nI n < i
        · rw [if_neg w3, if_neg w4, if_pos w5]
        rw [if_neg w3, if_neg w4, if_neg w5, if_neg]
        intro w6
        rcases w2 with w2 | w2 | w2 | w2
        · exact w3 w2
        · exact w4 w2
        · exact w5 w2
        · rw [Int32.le_iff_toInt_le] at w6; rw [Int32.lt_iff_toInt_lt] at w2; omega
      rcases range8 hp x7 x2 N i hn with ⟨f1, f2⟩ | ⟨i, f2, rfl, f1, f3⟩
      · refine no5 ?_ (by rcases f2 with f2 | f2 <;> simp [f2])
        rw [k8, if_pos hn0, f1, bind_some', if_pos rfl]
      rcases range8 hq y7 y2 N j hn with ⟨g1, g2⟩ | ⟨j, g2, rfl, g1, g3⟩
      · refine no5 ?_ (by rcases g2 with g2 | g2 <;> simp [g2])
        rw [k8, if_pos hn0, f1, bind_some', if_neg (by decide), g1, bind_some', if_pos rfl]
      refine ⟨1, mj_kL m (80 + 2 * p) (80 + 2 * q) i j n, wsL (wsL (mj_kL m (80 + 2 * p) (80 + 2 * q) i j n) 116 0 (fun k => (mj_kL m (80 + 2 * p) (80 + 2 * q) i j n).2 115 (120 * p + i + k)) n) 115 (120 * q + j) (fun k => (wsL (mj_kL m (80 + 2 * p) (80 + 2 * q) i j n) 116 0 (fun k => (mj_kL m (80 + 2 * p) (80 + 2 * q) i j n).2 115 (120 * p + i + k)) n).2 116 k) n, ?_, ?_, Rel_sh (s0 := q) h (fun b k z1 z2 => by rw [wsL_1, wsL_1]; rfl) (fun b k z1 z2 z3 => ?_) hq (shRow (o := o1) (n := n2) ?_)⟩
      · rw [k8, if_pos hn0, f1, bind_some', if_neg (by decide), g1, bind_some', if_neg (by decide), show 79 + 2 * p + 1 = 80 + 2 * p by omega, show 79 + 2 * q + 1 = 80 + 2 * q by omega, mj_ck_t (mjp hp hq (by omega) (by omega)), nI_clamp (by omega), nI_clamp (by omega), nI_clamp (by omega)]; rfl
      · rw [k9 (mj_kL m (80 + 2 * p) (80 + 2 * q) i j n) x3 y3 (x4.trans y4.symm) x5 y5, if_pos hn0, if_neg (nI_pos (by omega)), if_neg (nI_pos (by omega)), if_neg f3, if_pos, copy9 hp hq (by omega) (by omega) hN]
        rw [Int32.lt_iff_toInt_lt] at g3; rw [Int32.le_iff_toInt_le]; omega
      · unfold okL at z1
        rw [wsL_2, if_neg (by omega), wsL_2, if_neg (by omega), cpyL, if_neg (by omega)]
      · refine ⟨x1, y2, ?_, ?_, ?_, ?_, ?_, fun k hk => ?_⟩
        · rw [wsL_1, wsL_1]; exact y3
        · rw [wsL_1, wsL_1]; exact y4
        · rw [wsL_1, wsL_1]; exact y5
        · rw [wsL_1, wsL_1]; exact y6
        · rw [wsL_1, wsL_1]; exact y7
        · rw [wsL_2, if_neg (by omega), wsL_2, if_neg (by omega), cpyL]
          rw [wsL_2]
          by_cases w : j ≤ k ∧ k < j + n
          · rw [if_pos (by omega), if_pos (by omega), wsL_2, if_pos (by omega), cpyL, if_neg (by omega), x8 _ (by omega)]
            exact congrArg (m.2 115) (by omega)
          · rw [if_neg (by omega), if_neg (by omega), wsL_2, if_neg (by omega), cpyL, if_neg (by omega), y8 k hk]
    · obtain ⟨s1, s2⟩ := is_Rule hq y.1 y.2.2.2.1 N
      refine no2 ?_ ?_
      · rw [q8, r1, bind_some', if_pos rfl, s1, bind_some', if_neg (by decide)]
      · rw [q9]; rw [z110, z110, x.2.2.1, y.2.1]; rfl
  · obtain ⟨r1, r2⟩ := is_Rule hp x.1 x.2.2.2.1 N
    refine no2 ?_ ?_
    · rw [q8, r1, bind_some', if_neg (by decide)]
    · rw [q9]; rw [z110, x.2.1]; rfl
