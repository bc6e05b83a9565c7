/-! FALLS: both sides' number -/
def rsN (t : aT) (st : Nat → Nat) (h : Nat) : Nat := if t 6 h ≠ 0 ∧ st h < st (t 6 h - 1) then 1 else 0
def fN (t : aT) (st : Nat → Nat) (h k : Nat) : Nat := min 10 (t 1 h + t 12 k + rsN t st h - (4 * st h + 2 * t 8 h))
theorem fN_le (t : aT) (st : Nat → Nat) (h k : Nat) : fN t st h k ≤ 10 := Nat.min_le_left _ _
theorem nI_subI {a b : Nat} (ha : a < 1000) (hb : b < 1000) : (nI a - nI b).toInt = (a : Int) - b := by
  rw [Int32.toInt_sub, nI_toInt (by omega), nI_toInt (by omega)]
  apply Int.bmod_eq_of_le <;> omega
theorem clampN {a b : Nat} (ha : a < 1000) (hb : b < 1000) : (if 0 ≤ nI a - nI b then if nI a - nI b ≤ 10 then some (nI a - nI b) else some (10 : Int32) else some 0) = some (nI (min 10 (a - b))) := by
  have e := nI_subI ha hb
  have z0 : (0 : Int32).toInt = 0 := by decide
  have z1 : (10 : Int32).toInt = 10 := by decide
  by_cases q : 0 ≤ nI a - nI b
  · rw [if_pos q]
    rw [Int32.le_iff_toInt_le, e, z0] at q
    by_cases r : nI a - nI b ≤ 10
    · rw [if_pos r]
      rw [Int32.le_iff_toInt_le, e, z1] at r
      exact congrArg some (Int32.toInt_inj.mp (by rw [e, nI_toInt (by omega)]; omega))
    · rw [if_neg r]
      rw [Int32.le_iff_toInt_le, e, z1] at r
      rw [show min 10 (a - b) = 10 by omega]; rfl
  · rw [if_neg q]
    rw [Int32.le_iff_toInt_le, e, z0] at q
    rw [show min 10 (a - b) = 0 by omega]; rfl
/-- an array of steps: what it holds -/
def StA (m : mj_m) (A : Nat) (t : aT) (st : Nat → Nat) : Prop := (∀ i, i < 10 → mj_b 0 A (nI i) = true) ∧ ∀ i, i < t 13 1 → m.1 A i = nI (st i) ∧ st i ≤ 2
theorem St5 {m : mj_m} {t : aT} {u : Nat → Int32} (hG : Good t) (g : Rep (cg m 1 8) t u) : StA m 5 t (t 7) := ⟨fun i hi => bb_5 hi, fun i hi => ⟨x_steps g hi, (hG.2.1 i hi).2.2.2.2.2.2.2.1⟩⟩
theorem St9 {m : mj_m} {t : aT} {u : Nat → Int32} (hG : Good t) (g : Rep (mg m) t u) : StA m 108 t (t 7) := ⟨fun i hi => bb_108 hi, fun i hi => ⟨y_steps g hi, (hG.2.1 i hi).2.2.2.2.2.2.2.1⟩⟩
theorem tenths8 {m : mj_m} {t : aT} {u : Nat → Int32} {A : Nat} {st : Nat → Nat} (hG : Good t) (g : Rep (cg m 1 8) t u) (hs : StA m A t st) {h k : Nat} (hh : h < t 13 1) (hk : k < t 13 2) (N : Nat) : f_X7_tenths N (nI h) (nI k) A m = some (nI (fN t st h k)) := by
  have gh := GH hG
  have gk := GK hG
  obtain ⟨-, w1, -, -, -, -, w6, -, w8⟩ := hG.2.1 h hh
  have wk := (hG.2.2.2 k hk).2
  obtain ⟨s1, s2⟩ := hs.2 h hh
  have ck : (nI h).toNatClampNeg = h := nI_clamp (by omega)
  have ckk : (nI k).toNatClampNeg = k := nI_clamp (by omega)
  have e : ∀ p : Nat, p = 2 * t 8 h → f_X7_tenths_39 N (nI h) A (8 + h) (nI (t 1 h) + nI (t 12 k) - 4 * nI (st h)) (nI p) m = some (nI (fN t st h k)) := by
    intro p hp
    have v : nI (t 1 h) + nI (t 12 k) - 4 * nI (st h) - nI p = nI (t 1 h + t 12 k) - nI (4 * st h + 2 * t 8 h) := by
      rw [hp, show (4 : Int32) = nI 4 from rfl, nI_mul, nI_add, ← nI_add (4 * st h)]; grind
    unfold f_X7_tenths_39
    rw [v, mw_eq, mj_ck_t (mj_hs4_all h (by omega)).2, x_next g hh, x_houses g, ck]
    unfold fN rsN
    by_cases q : t 6 h = 0
    · rw [q, if_pos (by decide), if_neg (by omega), Nat.add_zero]
      unfold f_X7_tenths_78
      exact clampN (by omega) (by omega)
    · obtain ⟨j, hj⟩ : ∃ j, t 6 h = j + 1 := ⟨t 6 h - 1, by omega⟩
      obtain ⟨r1, r2⟩ := hs.2 j (by omega)
      rw [hj, nI_pred, if_neg (nI_pos (by omega)), if_neg (nI_ge (show j < t 13 1 by omega) (by omega)), mj_ck_t (hs.1 j (by omega)), mj_ck_t (hs.1 h (by omega)), nI_clamp (by omega), r1, s1, show j + 1 - 1 = j by omega]
      by_cases y : st h < st j
      · rw [if_neg (nI_ge y (by omega)), if_pos (by omega), mw_eq]
        have v2 : nI (t 1 h + t 12 k) - nI (4 * st h + 2 * t 8 h) + 1 = nI (t 1 h + t 12 k + 1) - nI (4 * st h + 2 * t 8 h) := by
          rw [nI_succ]; grind
        rw [v2]
        unfold f_X7_tenths_78
        exact clampN (by omega) (by omega)
      · rw [if_pos (nI_le (by omega) (by omega)), if_neg (by omega), Nat.add_zero]
        unfold f_X7_tenths_78
        exact clampN (by omega) (by omega)
  unfold f_X7_tenths
  rw [mj_ck_t (bb_4 (by omega)), mj_ck_t (bb_7 (by omega)), mj_ck_t (hs.1 h (by omega)), ck, ckk, x_prop g hh, x_weak g hh, x_hard g hk, s1]
  rcases (by omega : t 8 h = 0 ∨ t 8 h = 1) with q | q
  · rw [if_pos (by rw [q]; rfl)]
    exact e 0 (by omega)
  · rw [if_neg (by rw [q]; decide)]
    exact e 2 (by omega)
theorem falls9 {m : mj_m} {t : aT} {u : Nat → Int32} {st : Nat → Nat} (hG : Good t) (g : Rep (mg m) t u) (hs : StA m 108 t st) {h k : Nat} (hh : h < t 13 1) (hk : k < t 13 2) (N : Nat) : f_X9_fallsOf N (nI h) (nI k) m = some (nI (fN t st h k)) := by
  have gh := GH hG
  have gk := GK hG
  obtain ⟨-, w1, -, -, -, -, w6, -, w8⟩ := hG.2.1 h hh
  have wk := (hG.2.2.2 k hk).2
  obtain ⟨s1, s2⟩ := hs.2 h hh
  have ck : (nI h).toNatClampNeg = h := nI_clamp (by omega)
  have ckk : (nI k).toNatClampNeg = k := nI_clamp (by omega)
  have v : nI (t 1 h) + nI (t 12 k) - 4 * nI (st h) - 2 * nI (t 8 h) = nI (t 1 h + t 12 k) - nI (4 * st h + 2 * t 8 h) := by
    rw [show (4 : Int32) = nI 4 from rfl, show (2 : Int32) = nI 2 from rfl, nI_mul, nI_mul, nI_add, ← nI_add (4 * st h)]; grind
  unfold f_X9_fallsOf
  rw [mj_ck_t (bb_102 (by omega)), mj_ck_t (bb_100 (by omega)), mj_ck_t (bb_108 (by omega)), mj_ck_t (bb_109 (by omega)), ck, ckk, y_prop g hh, y_weak g hh, y_hard g hk, s1, v, mw_eq, mj_ck_t (bb_107 (by omega)), y_next g hh]
  unfold fN rsN
  by_cases q : t 6 h = 0
  · rw [q, if_pos (by decide), if_neg (by omega), Nat.add_zero]
    unfold f_X9_fallsOf_65
    exact clampN (by omega) (by omega)
  · obtain ⟨j, hj⟩ : ∃ j, t 6 h = j + 1 := ⟨t 6 h - 1, by omega⟩
    obtain ⟨r1, r2⟩ := hs.2 j (by omega)
    rw [hj, nI_pred, if_neg (nI_neg j (by omega)), mj_ck_t (bb_108 (by omega)), nI_clamp (by omega), r1, show j + 1 - 1 = j by omega]
    by_cases y : st h < st j
    · rw [if_neg (nI_ge y (by omega)), if_pos (by omega), mw_eq]
      have v2 : nI (t 1 h + t 12 k) - nI (4 * st h + 2 * t 8 h) + 1 = nI (t 1 h + t 12 k + 1) - nI (4 * st h + 2 * t 8 h) := by
        rw [nI_succ]; grind
      rw [v2]
      unfold f_X9_fallsOf_65
      exact clampN (by omega) (by omega)
    · rw [if_pos (nI_le (by omega) (by omega)), if_neg (by omega), Nat.add_zero]
      unfold f_X9_fallsOf_65
      exact clampN (by omega) (by omega)
theorem isK9_n {m : mj_m} {t : aT} {u : Nat → Int32} (h : RT m t u) (N : Nat) {v : Int32} (q : ∀ k, k < t 13 2 → v ≠ nI k) : f_X9_isShake N v m = some 0 := by
  rcases isK9 h N v with ⟨b1, -⟩ | ⟨j, hj, e, b1⟩
  · exact b1
  · exact absurd e (q j hj)
theorem isK9' {m : mj_m} {t : aT} {u : Nat → Int32} (h : RT m t u) (N : Nat) {k : Nat} (hk : k < t 13 2) : f_X9_isShake N (nI k) m = some 1 := by
  rcases isK9 h N (nI k) with ⟨-, b2⟩ | ⟨j, hj, e, b1⟩
  · exact absurd rfl (b2 k hk)
  · exact b1
theorem ca_falls {m : mj_m} (h : Rel m) (N : Nat) (v w : Int32) : Both (f_X8_falls N v w) (f_X9_falls N v w) m := by
  obtain ⟨t, u, h1⟩ := h.1
  have h2 := RT_rfu h1 1
  have e8 : f_X8_falls_22 N m = some (-1, rfu m 1) := by unfold f_X8_falls_22; rw [rf8_1]; rfl
  have e9 : f_X9_falls_25 N (rfu m 1) = some (-1, rfm (rfu m 1) 1) := by unfold f_X9_falls_25; rw [rf9_1]; rfl
  rcases isH8 h1 N v with ⟨a1, a2⟩ | ⟨k, hk, rfl, a1⟩
  · refine ⟨-1, rfu m 1, _, ?_, ?_, Rel_rf h 1⟩
    · unfold f_X8_falls; rw [a1]; exact e8
    · unfold f_X9_falls; rw [isH9_n h2 N a2]; exact e9
  rcases isK8 h1 N w with ⟨b1, b2⟩ | ⟨j, hj, rfl, b1⟩
  · refine ⟨-1, rfu m 1, _, ?_, ?_, Rel_rf h 1⟩
    · unfold f_X8_falls; rw [a1, bind_some', if_neg (by decide), b1]; exact e8
    · unfold f_X9_falls; rw [isH9' h2 N hk, bind_some', if_neg (by decide), isK9_n h2 N b2]; exact e9
  · refine ⟨nI (fN t (t 7) k j), m, m, ?_, ?_, h⟩
    · unfold f_X8_falls; rw [a1, bind_some', if_neg (by decide), b1, bind_some', if_neg (by decide), tenths8 h1.1 h1.2.1 (St5 h1.1 h1.2.1) hk hj]; rfl
    · unfold f_X9_falls; rw [isH9' h1 N hk, bind_some', if_neg (by decide), isK9' h1 N hj, bind_some', if_neg (by decide), falls9 h1.1 h1.2.2 (St9 h1.1 h1.2.2) hk hj]; rfl
