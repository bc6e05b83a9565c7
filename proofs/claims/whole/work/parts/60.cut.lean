/-! CUT: the reference's loops; the call -/
theorem shu_bit (t : aT) (set n i : Nat) : (shuN t set (n + 1)).testBit i = ((shuN t set n).testBit i || (set.testBit n && decide (t 5 n = i + 1))) := by
  show (if set.testBit n = true ∧ t 5 n ≠ 0 then shuN t set n ||| 2 ^ (t 5 n - 1) else shuN t set n).testBit i = _
  by_cases q : set.testBit n = true ∧ t 5 n ≠ 0
  · rw [if_pos q, Nat.testBit_or, Nat.testBit_two_pow, q.1, Bool.true_and]
    congr 1
    exact decide_eq_decide.mpr (by omega)
  · rw [if_neg q]
    by_cases y : set.testBit n = true
    · rw [y, decide_eq_false (show ¬ t 5 n = i + 1 from fun z => q ⟨y, by omega⟩)]; simp
    · rw [Bool.eq_false_iff.mpr y]; simp
theorem stp9 : ∀ r, r < 256 → ∀ a, a < 8 → ∀ b, b < 8 → (if (if r.testBit a = true then r ||| 2 ^ b else r).testBit b = true then (if r.testBit a = true then r ||| 2 ^ b else r) ||| 2 ^ a else (if r.testBit a = true then r ||| 2 ^ b else r)) = if r &&& (2 ^ a ||| 2 ^ b) ≠ 0 then r ||| (2 ^ a ||| 2 ^ b) else r := by decide +kernel
theorem open9 {m : mj_m} {t : aT} {u : Nat → Int32} (hG : Good t) (g : Rep (mg m) t u) {N0 : Nat} {k4 k14 : Int32 × Int32 → Option Int32} {set i : Nat} {r w : Int32} (hi : i < t 13 0) {N : Nat} (hN : 20 ≤ N) : mj_lp N (f_X9_cutOf_29 N0 k4 k14 (nI set) r w (nI i) m) (1, 0) = if (shuN t set (t 13 1)).testBit i = true then f_X9_cutOf_131 N0 k4 k14 (nI set) r w (nI i) m else (mj_ck (mj_b 0 97 (nI i)) ( if ((r >>> ((m.1 97 (nI i).toNatClampNeg) &&& 31)) &&& 1) = 1 then (mj_ck (mj_b 0 98 (nI i)) ( mj_mw (r ||| (1 <<< ((m.1 98 (nI i).toNatClampNeg) &&& 31))) (fun x6 => f_X9_cutOf_104 N0 k4 k14 (nI set) x6 w (nI i) m))) else f_X9_cutOf_104 N0 k4 k14 (nI set) r w (nI i) m)) := by
  have gh := GH hG
  have gs := GS hG
  have e0 : ((1 : Int32), (0 : Int32)) = (fun h => (if (shuN t set h).testBit i = true then (0 : Int32) else 1, nI h)) 0 := by simp [shuN, nI_0]
  rw [e0]
  refine lp_for (fun h => (if (shuN t set h).testBit i = true then (0 : Int32) else 1, nI h)) (c := t 13 1) (by omega) (fun h hh k => ?_) (fun k => ?_)
  · have w5 := (hG.2.1 h hh).2.2.2.2.2.1
    unfold f_X9_cutOf_29 f_X9_cutOf_63
    dsimp only
    rw [y_houses g, if_neg (nI_ge hh (by omega)), mj_ck_t (bb_106 (by omega)), nI_clamp (by omega), y_front g hh, shu_bit]
    simp only [mw_eq]
    by_cases q : set.testBit h = true
    · rw [if_pos ((n_bit1 set (by omega)).mpr q), q, Bool.true_and]
      by_cases y : t 5 h = i + 1
      · rw [y, nI_pred, if_pos rfl, decide_eq_true rfl, Bool.or_true, if_pos rfl, nI_succ]
      · rw [decide_eq_false y, Bool.or_false, if_neg, nI_succ]
        intro z
        apply y
        by_cases y0 : t 5 h = 0
        · rw [y0] at z; exact absurd z.symm (nI_neg i (by omega))
        · obtain ⟨j, hj⟩ : ∃ j, t 5 h = j + 1 := ⟨t 5 h - 1, by omega⟩
          rw [hj, nI_pred] at z
          rw [hj, (nI_eq (by omega) (by omega)).mp z]
    · rw [if_neg (fun z => q ((n_bit1 set (by omega)).mp z)), Bool.eq_false_iff.mpr q, Bool.false_and, Bool.or_false, nI_succ]
  · unfold f_X9_cutOf_29
    dsimp only
    rw [y_houses g, if_pos (nI_le (by omega) (by omega))]
    by_cases q : (shuN t set (t 13 1)).testBit i = true
    · rw [if_pos q, if_pos q, if_pos rfl]
    · rw [if_neg q, if_neg q, if_neg (by decide)]
theorem pass9 {m : mj_m} {t : aT} {u : Nat → Int32} (hG : Good t) (g : Rep (mg m) t u) {N0 : Nat} {k4 : Int32 × Int32 → Option Int32} {set r : Nat} {w : Int32} (hr : r < 256) {N : Nat} (hN : 20 ≤ N) (hN0 : 20 ≤ N0) : mj_lp N (f_X9_cutOf_14 N0 k4 (nI set) w m) (nI r, 0) = k4 (nI (passN t (shuN t set (t 13 1)) (t 13 0) r), w) := by
  have gs := GS hG
  refine lp_for (fun i => (nI (passN t (shuN t set (t 13 1)) i r), nI i)) (c := t 13 0) (by omega) (fun i hi k => ?_) (fun k => ?_)
  · obtain ⟨e1, e2⟩ := hG.2.2.1 i hi
    have pl := pass_lt (b := shuN t set (t 13 1)) hG hr i (by omega)
    unfold f_X9_cutOf_14
    dsimp only
    rw [y_streets g, if_neg (nI_ge hi (by omega)), open9 hG g hi hN0]
    show _ = k (nI (stp t (shuN t set (t 13 1)) i (passN t (shuN t set (t 13 1)) i r)), nI (i + 1))
    generalize shuN t set (t 13 1) = b at pl
    generalize passN t b i r = R at pl
    have key := stp9 R pl _ e1 _ e2
    unfold stp endsN f_X9_cutOf_131 f_X9_cutOf_104
    by_cases q : b.testBit i = true
    · rw [if_pos q, mw_eq, if_neg (fun z => by rw [q] at z; cases z.1), nI_succ]
    · have q' : b.testBit i = false := Bool.eq_false_iff.mpr q
      have k97 : mj_b 0 97 (nI i) = true := bb_97 (by omega)
      have k98 : mj_b 0 98 (nI i) = true := bb_98 (by omega)
      simp only [mj_ck_t k97, mj_ck_t k98]
      rw [if_neg q, nI_clamp (by omega), y_ea g hi, y_eb g hi, n_shl _ (by omega), n_shl _ (by omega)]
      unfold f_X9_cutOf_131
      simp only [mw_eq]
      have e : (if b.testBit i = false ∧ R &&& (2 ^ t 9 i ||| 2 ^ t 10 i) ≠ 0 then R ||| (2 ^ t 9 i ||| 2 ^ t 10 i) else R) = if R &&& (2 ^ t 9 i ||| 2 ^ t 10 i) ≠ 0 then R ||| (2 ^ t 9 i ||| 2 ^ t 10 i) else R := by
        by_cases z : R &&& (2 ^ t 9 i ||| 2 ^ t 10 i) ≠ 0
        · rw [if_pos z, if_pos ⟨q', z⟩]
        · rw [if_neg z, if_neg (fun y => z y.2)]
      rw [e, ← key]
      by_cases a : R.testBit (t 9 i) = true
      · rw [if_pos ((n_bit1 R (by omega)).mpr a), if_pos a, n_or]
        by_cases c : (R ||| 2 ^ t 10 i).testBit (t 10 i) = true
        · rw [if_pos ((n_bit1 _ (by omega)).mpr c), if_pos c, n_or, nI_succ]
        · rw [if_neg (fun z => c ((n_bit1 _ (by omega)).mp z)), if_neg c, nI_succ]
      · rw [if_neg (fun z => a ((n_bit1 _ (by omega)).mp z)), if_neg a]
        by_cases c : R.testBit (t 10 i) = true
        · rw [if_pos ((n_bit1 _ (by omega)).mpr c), if_pos c, n_or, nI_succ]
        · rw [if_neg (fun z => c ((n_bit1 _ (by omega)).mp z)), if_neg c, nI_succ]
  · unfold f_X9_cutOf_14
    dsimp only
    rw [y_streets g, if_pos (nI_le (by omega) (by omega))]
theorem cut9 {m : mj_m} {t : aT} {u : Nat → Int32} (hG : Good t) (g : Rep (mg m) t u) (set : Nat) {N : Nat} (hN : 20 ≤ N) : f_X9_cutOf N (nI set) m = some (nI (cutN t (shuN t set (t 13 1)))) := by
  have H : ∀ d p M w, p + d = 8 → d < M → (p = 0 ∧ w = 0 ∨ ∃ q, p = q + 1 ∧ w = pwN t (shuN t set (t 13 1)) q) → mj_lp M (f_X9_cutOf_4 N (nI set) m) (nI (pwN t (shuN t set (t 13 1)) p), nI w) = some (nI (cutN t (shuN t set (t 13 1)))) := by
    generalize hb : shuN t set (t 13 1) = b
    have fin : ∀ p, pwN t b p = pwN t b 7 → some ((255 : Int32) &&& (nI (pwN t b p) ^^^ (-1 : Int32))) = some (nI (cutN t b)) := by
      intro p hp
      unfold cutN
      rw [n_rest _ (pw_lt256 hG b p), hp]
    intro d
    induction d with
    | zero =>
      intro p M w h1 h2 h3
      obtain ⟨M, rfl⟩ : ∃ k, M = k + 1 := ⟨M - 1, by omega⟩
      show f_X9_cutOf_4 N (nI set) m (mj_lp M (f_X9_cutOf_4 N (nI set) m)) (nI (pwN t b p), nI w) = _
      unfold f_X9_cutOf_4
      dsimp only
      rcases h3 with ⟨h3, -⟩ | ⟨q, h3, rfl⟩
      · omega
      · have : q = 7 := by omega
        subst this
        subst h3
        rw [if_pos (by rw [pw_7 hG b])]
        exact fin _ (pw_7 hG b)
    | succ d ih =>
      intro p M w h1 h2 h3
      obtain ⟨M, rfl⟩ : ∃ k, M = k + 1 := ⟨M - 1, by omega⟩
      have i1 := ih (p + 1) M (pwN t b p) (by omega) (by omega) (Or.inr ⟨p, rfl, rfl⟩)
      show f_X9_cutOf_4 N (nI set) m (mj_lp M (f_X9_cutOf_4 N (nI set) m)) (nI (pwN t b p), nI w) = _
      generalize hK : mj_lp M (f_X9_cutOf_4 N (nI set) m) = K at i1
      unfold f_X9_cutOf_4
      dsimp only
      by_cases q : nI w = nI (pwN t b p)
      · rw [if_pos q]
        rcases h3 with ⟨rfl, rfl⟩ | ⟨q', rfl, rfl⟩
        · exact absurd q (show ¬ nI 0 = nI 1 by decide)
        · have q2 := (nI_eq (by have := pw_lt256 hG b q'; omega) (by have := pw_lt256 hG b (q' + 1); omega)).mp q
          exact fin _ (by rw [← q2]; exact pw_at (by omega) q2.symm)
      · rw [if_neg q, pass9 hG g (pw_lt256 hG b p) hN hN, hb]
        exact i1
  exact H 8 0 N 0 rfl (by omega) (Or.inl ⟨rfl, rfl⟩)
theorem ca_cut {m : mj_m} (h : Rel m) {N : Nat} (hN : 20 ≤ N) (v : Int32) : Both (f_X8_cut N v) (f_X9_cut N v) m := by
  obtain ⟨t, u, h1⟩ := h.1
  have gh := RT_nH h1
  have h2 := RT_rfu h1 1
  have e8 : f_X8_cut_17 N m = some (-1, rfu m 1) := by unfold f_X8_cut_17; rw [rf8_1]; rfl
  have e9 : f_X9_cut_22 N (rfu m 1) = some (-1, rfm (rfu m 1) 1) := by unfold f_X9_cut_22; rw [rf9_1]; rfl
  by_cases q : v < 0
  · refine ⟨-1, rfu m 1, _, ?_, ?_, Rel_rf h 1⟩
    · unfold f_X8_cut; rw [if_pos q]; exact e8
    · unfold f_X9_cut; rw [if_pos q]; exact e9
  obtain ⟨set, hs, rfl⟩ := nI_of q
  have p31 := pw31 (show t 13 1 < 31 by omega)
  by_cases y : set < 2 ^ t 13 1
  · refine ⟨nI (cutN t (shuN t set (t 13 1))), m, m, ?_, ?_, h⟩
    · unfold f_X8_cut
      rw [if_neg q, c_houses h1, n_shl _ (by omega), if_pos (nI_lt y p31), shut8 h1.1 h1.2.1 set hN, bind_some', cut8 h1.1 h1.2.1 _ hN]; rfl
    · unfold f_X9_cut
      rw [if_neg q, m_houses h1, n_shl _ (by omega), if_neg (nI_ge y p31), cut9 h1.1 h1.2.2 set hN]; rfl
  · refine ⟨-1, rfu m 1, _, ?_, ?_, Rel_rf h 1⟩
    · unfold f_X8_cut; rw [if_neg q, c_houses h1, n_shl _ (by omega), if_neg (nI_nlt (by omega) hs)]; exact e8
    · unfold f_X9_cut; rw [if_neg q, m_houses h2, n_shl _ (by omega), if_pos (nI_le (by omega) hs)]; exact e9
