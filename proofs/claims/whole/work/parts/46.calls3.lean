/-! THE CALLS, further: front, next, prop, alter -/
theorem p_toInt {s : Nat} (hs : s < 1000) : (nI s - 1).toInt = (s : Int) - 1 := by
  cases s with
  | zero => decide
  | succ n => rw [nI_pred, nI_toInt (by omega)]; omega
theorem Rel_hf {m : mj_m} {t : aT} {u : Nat → Int32} {f i v A K : Nat} {x : Int32} (h : Rel m) (h1 : RT m t u) (hf : f < 9) (hi : i < t 13 1) (e : cA 1 8 f i = (A, K)) (hx : x = nI v - (if f = 5 ∨ f = 6 then 1 else 0)) (hg : Good (mj_up t f i v)) : Rel (mj_wI (mj_wI m A K x) (101 + f) i x) := by
  have hH := RT_nH h1
  have hd : dm f i := ⟨by omega, by rw [if_pos hf]; omega⟩
  have r := cA_rng (b := 1) (d := 8) rfl hd
  rw [e] at r
  dsimp only at r
  have r2 : mA f i = (101 + f, i) := by unfold mA; rw [if_pos hf]
  have hb : 8 ≤ A → K = 7 → b01 x := by
    intro y1 y2
    have f8 : f = 8 := by
      rcases cA_fm (b := 1) (d := 8) hd with ⟨q0, q⟩ | ⟨q0, q⟩ | ⟨q0, q⟩ | ⟨q0, q⟩ | ⟨q0, q⟩ | ⟨q0, q⟩ | ⟨q0, q⟩ | ⟨q0, q⟩ | ⟨q0, q⟩ <;> (rw [e] at q; have c1 := congrArg Prod.fst q; have c2 := congrArg Prod.snd q; dsimp only at c1 c2; omega)
    subst f8
    have w := (hg.2.1 i hi).2.2.2.2.2.2.2.2
    rw [up_at, if_pos ⟨rfl, rfl⟩] at w
    rw [if_neg (by decide), Int32.sub_zero] at hx
    rcases (by omega : v = 0 ∨ v = 1) with z | z
    · exact Or.inl (by rw [hx, z]; rfl)
    · exact Or.inr (by rw [hx, z]; rfl)
  exact Rel_TI (t' := mj_up t f i v) (u' := u) h ⟨hg, Rep_cn hg (Rep_cw h1.1 h1.2.1 (by omega) hd e hx) (by omega), Rep_mw h1.1 (Rep_mn h1.1 h1.2.2 (by omega)) (by omega) hd r2 hx⟩ (by omega) (by omega) hb
theorem cA_lo (f i : Nat) (hf : f < 7) : cA 1 8 f i = (8 + i, f) := if_pos hf
theorem ca_front {m : mj_m} (h : Rel m) (N : Nat) (v w : Int32) : Both (f_X8_front N v w) (f_X9_front N v w) m := by
  obtain ⟨t, u, h1⟩ := h.1
  have hH := RT_nH h1
  have hS := RT_nS h1
  have e80 : f_X8_front_27 N m = some (-11, rfu m 1) := by unfold f_X8_front_27; rw [rb8_1]; rfl
  have e90 : f_X9_front_21 N (rfu m 1) = some (-11, rfm (rfu m 1) 1) := by unfold f_X9_front_21; rw [rb9_1]; rfl
  rcases isH8 h1 N v with ⟨a1, a2⟩ | ⟨k, hk, rfl, a1⟩
  · refine ⟨-11, rfu m 1, _, ?_, ?_, Rel_rf h 1⟩
    · exact (by unfold f_X8_front; rw [a1]; exact e80 : f_X8_front N v w m = some (-11, rfu m 1))
    · rcases isH9 (RT_rfu h1 1) N v with ⟨b1, -⟩ | ⟨k, hk, e, -⟩
      · unfold f_X9_front; rw [b1]; exact e90
      · exact absurd e (a2 k hk)
  by_cases hw : ∃ s, s ≤ t 13 0 ∧ w = nI s - 1
  · obtain ⟨s, hs, rfl⟩ := hw
    have hx : nI s - 1 = nI s - (if 5 = 5 ∨ 5 = 6 then 1 else 0) := rfl
    have hg : Good (mj_up t 5 k s) := Good_up h1.1 (by omega) (by omega)
    refine ⟨m.1 (8 + k) 5, mj_wI m (8 + k) 5 (nI s - 1), _, ?_, ?_, Rel_hf h h1 (f := 5) (by omega) hk (cA_lo 5 k (by omega)) hx hg⟩
    · have z : f_X8_front_33 N (nI k) (nI s - 1) m = some (m.1 (8 + k) 5, mj_wI m (8 + k) 5 (nI s - 1)) := by
        unfold f_X8_front_33
        rw [mj_ck_t (bb_4 (by omega)), nI_clamp (by omega)]
        rfl
      unfold f_X8_front
      rw [a1, bind_some', if_neg (by decide)]
      cases s with
      | zero => rw [if_pos (by decide)]; exact z
      | succ s =>
        rcases isS8 h1 N (nI (s + 1) - 1) with ⟨-, b2⟩ | ⟨j, hj, -, b1⟩
        · exact absurd (nI_pred s) (b2 s (by omega))
        · rw [if_neg (by rw [nI_pred]; exact nI_neg s (by omega)), b1, bind_some', if_neg (by decide)]
          exact z
    · have h1' : RT m t u := h1
      unfold f_X9_front
      have c1 : (mj_wI m (8 + k) 5 (nI s - 1)).1 95 1 = nI (t 13 1) := by rw [wI_1, up_n _ _ _ _ (by omega)]; exact m_houses h1
      have c2 : (mj_wI m (8 + k) 5 (nI s - 1)).1 95 0 = nI (t 13 0) := by rw [wI_1, up_n _ _ _ _ (by omega)]; exact m_streets h1
      have c3 : (mj_wI m (8 + k) 5 (nI s - 1)).1 106 k = m.1 (8 + k) 5 := by rw [wI_1, up_n _ _ _ _ (by omega), m_front h1 hk, c_front h1 hk]
      have b1 : f_X9_isHouse N (nI k) (mj_wI m (8 + k) 5 (nI s - 1)) = some 1 := by
        have q := bndi c1 (by omega) hk
        unfold f_X9_isHouse; rw [if_neg q.1, if_neg q.2]
      rw [b1, bind_some', if_neg (by decide), if_neg, if_pos, mj_ck_t (bb_106 (by omega)), nI_clamp (by omega), mw_eq, mw_eq, c3]
      · rw [c2, Int32.lt_iff_toInt_lt, p_toInt (by omega), nI_toInt (by omega)]; omega
      · rw [Int32.lt_iff_toInt_lt, p_toInt (by omega)]
        have : (-1 : Int32).toInt = -1 := by decide
        omega
  · have e8 : f_X8_front N (nI k) w m = some (-11, rfu m 1) := by
      unfold f_X8_front
      rw [a1, bind_some', if_neg (by decide), if_neg (fun z => hw ⟨0, by omega, by rw [z]; decide⟩)]
      rcases isS8 h1 N w with ⟨b1, -⟩ | ⟨j, hj, e, -⟩
      · rw [b1]; exact e80
      · exact absurd ⟨j + 1, by omega, by rw [nI_pred]; exact e⟩ hw
    have e9 : f_X9_front N (nI k) w (rfu m 1) = some (-11, rfm (rfu m 1) 1) := by
      have h2 := RT_rfu h1 1
      unfold f_X9_front
      rcases isH9 h2 N (nI k) with ⟨-, b2⟩ | ⟨j, hj, e, b1⟩
      · exact absurd rfl (b2 k hk)
      · rw [b1, bind_some', if_neg (by decide)]
        by_cases q1 : w < -1
        · rw [if_pos q1]; exact e90
        · rw [if_neg q1, if_neg]
          · exact e90
          · intro q2
            rw [m_streets h2] at q2
            rw [Int32.lt_iff_toInt_lt] at q1 q2
            rw [nI_toInt (by omega)] at q2
            have q3 : (-1 : Int32).toInt = -1 := by decide
            by_cases q4 : w < 0
            · rw [Int32.lt_iff_toInt_lt] at q4
              have q5 : (0 : Int32).toInt = 0 := by decide
              exact hw ⟨0, by omega, Int32.toInt_inj.mp (by have : (nI 0 - 1).toInt = -1 := by decide
                                                            omega)⟩
            · obtain ⟨j, hj, rfl⟩ := nI_of q4
              rw [nI_toInt hj] at q2
              exact hw ⟨j + 1, by omega, by rw [nI_pred]⟩
    exact ⟨_, _, _, e8, e9, Rel_rf h 1⟩
theorem isH9' {m : mj_m} {t : aT} {u : Nat → Int32} (h : RT m t u) (N : Nat) {k : Nat} (hk : k < t 13 1) : f_X9_isHouse N (nI k) m = some 1 := by
  rcases isH9 h N (nI k) with ⟨-, b2⟩ | ⟨j, hj, e, b1⟩
  · exact absurd rfl (b2 k hk)
  · exact b1
theorem isH8' {m : mj_m} {t : aT} {u : Nat → Int32} (h : RT m t u) (N : Nat) {k : Nat} (hk : k < t 13 1) : f_X7_isHouse N (nI k) m = some 1 := by
  rcases isH8 h N (nI k) with ⟨-, b2⟩ | ⟨j, hj, e, b1⟩
  · exact absurd rfl (b2 k hk)
  · exact b1
theorem isH9_n {m : mj_m} {t : aT} {u : Nat → Int32} (h : RT m t u) (N : Nat) {v : Int32} (q : ∀ k, k < t 13 1 → v ≠ nI k) : f_X9_isHouse N v m = some 0 := by
  rcases isH9 h N v with ⟨b1, -⟩ | ⟨j, hj, e, b1⟩
  · exact b1
  · exact absurd e (q j hj)
theorem isH9_w {m : mj_m} {t : aT} {u : Nat → Int32} (h : RT m t u) (N : Nat) {a b : Nat} {x v : Int32} (hb : a < 95) : f_X9_isHouse N v (mj_wI m a b x) = f_X9_isHouse N v m := by
  have e : (mj_wI m a b x).1 95 1 = m.1 95 1 := by rw [wI_1, up_n _ _ _ _ (by omega)]
  unfold f_X9_isHouse f_X9_isHouse_16
  rw [e]
theorem ca_next {m : mj_m} (h : Rel m) (N : Nat) (v w : Int32) : Both (f_X8_next N v w) (f_X9_next N v w) m := by
  obtain ⟨t, u, h1⟩ := h.1
  have hH := RT_nH h1
  have h2 := RT_rfu h1 1
  have e80 : f_X8_next_27 N m = some (-11, rfu m 1) := by unfold f_X8_next_27; rw [rb8_1]; rfl
  have e90 : f_X9_next_21 N (rfu m 1) = some (-11, rfm (rfu m 1) 1) := by unfold f_X9_next_21; rw [rb9_1]; rfl
  rcases isH8 h1 N v with ⟨a1, a2⟩ | ⟨k, hk, rfl, a1⟩
  · refine ⟨-11, rfu m 1, _, ?_, ?_, Rel_rf h 1⟩
    · exact (by unfold f_X8_next; rw [a1]; exact e80 : f_X8_next N v w m = some (-11, rfu m 1))
    · unfold f_X9_next; rw [isH9_n h2 N a2]; exact e90
  have ok : ∀ s, s ≤ t 13 1 → w = nI s - 1 → Both (f_X8_next_33 N (nI k) w) (f_X9_next_27 N (nI k) w) m := by
    intro s hs e
    by_cases q : w = nI k
    · refine ⟨-16, rfu m 6, _, ?_, ?_, Rel_rf h 6⟩
      · unfold f_X8_next_33; rw [if_pos q, rb8_6]; rfl
      · unfold f_X9_next_27; rw [if_pos q.symm, rb9_6]; rfl
    · have hx : w = nI s - (if 6 = 5 ∨ 6 = 6 then 1 else 0) := e
      have hg : Good (mj_up t 6 k s) := Good_up h1.1 (by omega) (by omega)
      refine ⟨m.1 (8 + k) 6, mj_wI m (8 + k) 6 w, _, ?_, ?_, Rel_hf h h1 (f := 6) (by omega) hk (cA_lo 6 k (by omega)) hx hg⟩
      · unfold f_X8_next_33
        rw [if_neg q, mj_ck_t (bb_4 (by omega)), nI_clamp (by omega)]
        rfl
      · unfold f_X9_next_27
        rw [if_neg (fun z => q z.symm), mj_ck_t (bb_107 (by omega)), nI_clamp (by omega), mw_eq, mw_eq]
        rw [show (mj_wI m (8 + k) 6 w).1 107 k = m.1 (8 + k) 6 by rw [wI_1, up_n _ _ _ _ (by omega), m_next h1 hk, c_next h1 hk]]
  by_cases hw : w = -1
  · obtain ⟨x, m1, m2, r1, r2, r3⟩ := ok 0 (by omega) (by rw [hw]; decide)
    refine ⟨x, m1, m2, ?_, ?_, r3⟩
    · unfold f_X8_next; rw [a1, bind_some', if_neg (by decide), if_pos hw]; exact r1
    · have b1 : f_X9_isHouse N (nI k) m1 = some 1 := by
        unfold f_X8_next_33 at r1
        rw [if_neg (by rw [hw]; exact (nI_neg k (by omega)).symm), mj_ck_t (bb_4 (by omega)), nI_clamp (by omega)] at r1
        have r4 : mj_wI m (8 + k) 6 w = m1 := congrArg Prod.snd (Option.some.inj r1)
        rw [← r4, isH9_w h1 N (by omega)]; exact isH9' h1 N hk
      unfold f_X9_next; rw [b1, bind_some', if_neg (by decide), if_pos hw]; exact r2
  rcases isH8 h1 N w with ⟨c1, c2⟩ | ⟨j, hj, rfl, c1⟩
  · refine ⟨-11, rfu m 1, _, ?_, ?_, Rel_rf h 1⟩
    · exact (by unfold f_X8_next; rw [a1, bind_some', if_neg (by decide), if_neg hw, c1]; exact e80 : f_X8_next N (nI k) w m = some (-11, rfu m 1))
    · unfold f_X9_next; rw [isH9' h2 N hk, bind_some', if_neg (by decide), if_neg hw, isH9_n h2 N c2]; exact e90
  · obtain ⟨x, m1, m2, r1, r2, r3⟩ := ok (j + 1) (by omega) (by rw [nI_pred])
    refine ⟨x, m1, m2, ?_, ?_, r3⟩
    · unfold f_X8_next; rw [a1, bind_some', if_neg (by decide), if_neg hw, c1]; exact r1
    · have b1 : f_X9_isHouse N (nI k) m1 = some 1 ∧ f_X9_isHouse N (nI j) m1 = some 1 := by
        unfold f_X8_next_33 at r1
        by_cases q : nI j = nI k
        · rw [if_pos q, rb8_6] at r1
          have r4 : rfu m 6 = m1 := congrArg Prod.snd (Option.some.inj r1)
          rw [← r4]; exact ⟨isH9' (RT_rfu h1 6) N hk, isH9' (RT_rfu h1 6) N hj⟩
        · rw [if_neg q, mj_ck_t (bb_4 (by omega)), nI_clamp (by omega)] at r1
          have r4 : mj_wI m (8 + k) 6 (nI j) = m1 := congrArg Prod.snd (Option.some.inj r1)
          rw [← r4, isH9_w h1 N (by omega), isH9_w h1 N (by omega)]; exact ⟨isH9' h1 N hk, isH9' h1 N hj⟩
      unfold f_X9_next; rw [b1.1, bind_some', if_neg (by decide), if_neg hw, b1.2, bind_some', if_neg (by decide)]; exact r2
theorem ca_prop {m : mj_m} (h : Rel m) (N : Nat) (v : Int32) {b : Nat} (hb : b ≤ 1) : Both (f_X8_prop N v (nI b)) (f_X9_prop N v (nI b)) m := by
  obtain ⟨t, u, h1⟩ := h.1
  have hH := RT_nH h1
  have h2 := RT_rfu h1 1
  rcases isH8 h1 N v with ⟨a1, a2⟩ | ⟨k, hk, rfl, a1⟩
  · refine ⟨-1, rfu m 1, _, ?_, ?_, Rel_rf h 1⟩
    · exact (by unfold f_X8_prop; rw [a1, bind_some', if_pos rfl, rf8_1]; rfl : f_X8_prop N v (nI b) m = some (-1, rfu m 1))
    · unfold f_X9_prop; rw [isH9_n h2 N a2, bind_some', if_pos rfl, rf9_1]; rfl
  have e9 : ∀ m', f_X9_isHouse N (nI k) m' = some 1 → f_X9_prop N (nI k) (nI b) m' = f_X9_prop_23 N (nI k) (nI b) m' := by
    intro m' q
    unfold f_X9_prop
    rw [q, bind_some', if_neg (by decide)]
    rcases (by omega : b = 0 ∨ b = 1) with rfl | rfl
    · rw [if_pos (by decide)]; rfl
    · rw [if_neg (by decide)]; rfl
  by_cases q : m.1 (8 + k) 7 = nI b
  · refine ⟨0, m, m, ?_, ?_, h⟩
    · unfold f_X8_prop; rw [a1, bind_some', if_neg (by decide), mj_ck_t (bb_4 (by omega)), nI_clamp (by omega), if_pos q]
    · rw [e9 m (isH9' h1 N hk)]
      unfold f_X9_prop_23
      rw [mj_ck_t (bb_109 (by omega)), nI_clamp (by omega), if_pos (by rw [m_prop h1 hk, ← c_prop h1 hk]; exact q)]
  · have hx : nI b = nI b - (if 8 = 5 ∨ 8 = 6 then 1 else 0) := by rw [if_neg (by decide), Int32.sub_zero]
    have hg : Good (mj_up t 8 k b) := Good_up h1.1 (by omega) (by omega)
    refine ⟨1, mj_wI m (8 + k) 7 (nI b), _, ?_, ?_, Rel_hf h h1 (f := 8) (by omega) hk rfl hx hg⟩
    · unfold f_X8_prop
      rw [a1, bind_some', if_neg (by decide), mj_ck_t (bb_4 (by omega)), nI_clamp (by omega), if_neg q, mj_ck_t]
      · rfl
      · rcases (by omega : b = 0 ∨ b = 1) with rfl | rfl <;> decide
    · rw [e9 _ (by rw [isH9_w h1 N (by omega)]; exact isH9' h1 N hk)]
      unfold f_X9_prop_23
      rw [mj_ck_t (bb_109 (by omega)), nI_clamp (by omega), if_neg]
      · rfl
      · rw [wI_1, up_n _ _ _ _ (by omega), m_prop h1 hk, ← c_prop h1 hk]; exact q
