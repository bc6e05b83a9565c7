/-! THE CALLS, further: shake, street, house -/
theorem isC (N : Nat) (v : Int32) (m : mj_m) : f_X8_isCorner N v m = some 0 ∨ ∃ c, c < 8 ∧ v = nI c ∧ f_X8_isCorner N v m = some 1 := by
  unfold f_X8_isCorner f_X8_isCorner_14
  by_cases h0 : v < 0
  · exact Or.inl (if_pos h0)
  · rw [if_neg h0]
    by_cases h1 : 8 ≤ v
    · exact Or.inl (if_pos h1)
    · rw [if_neg h1]
      obtain ⟨k, hk, e⟩ := bnd (c := 8) (n := 8) rfl (by omega) h0 h1
      exact Or.inr ⟨k, hk, e, rfl⟩
theorem isC9 (N : Nat) (v : Int32) (m m' : mj_m) : f_X9_isCorner N v m' = f_X8_isCorner N v m := rfl
theorem isCB (N : Nat) (v0 v1 v2 v3 : Int32) (m : mj_m) : f_X8_canBeHouse N v0 v1 v2 v3 m = some 0 ∨ ∃ a b c d, a ≤ 9 ∧ b ≤ 99 ∧ c ≤ 99 ∧ 1 ≤ d ∧ d ≤ 99 ∧ v0 = nI a ∧ v1 = nI b ∧ v2 = nI c ∧ v3 = nI d ∧ f_X8_canBeHouse N v0 v1 v2 v3 m = some 1 := by
  unfold f_X8_canBeHouse f_X8_canBeHouse_45
  by_cases h0 : v0 < 0
  · exact Or.inl (if_pos h0)
  rw [if_neg h0]
  by_cases h1 : 9 < v0
  · exact Or.inl (if_pos h1)
  rw [if_neg h1]
  by_cases h2 : v1 < 0
  · exact Or.inl (if_pos h2)
  rw [if_neg h2]
  by_cases h3 : 99 < v1
  · exact Or.inl (if_pos h3)
  rw [if_neg h3]
  by_cases h4 : v2 < 0
  · exact Or.inl (if_pos h4)
  rw [if_neg h4]
  by_cases h5 : 99 < v2
  · exact Or.inl (if_pos h5)
  rw [if_neg h5]
  by_cases h6 : v3 < 1
  · exact Or.inl (if_pos h6)
  rw [if_neg h6]
  by_cases h7 : 99 < v3
  · exact Or.inl (if_pos h7)
  rw [if_neg h7]
  obtain ⟨a, -, a2, a3⟩ := mid (a := 0) (b := 9) h0 h1 (by decide)
  obtain ⟨b, -, b2, b3⟩ := mid (a := 0) (b := 99) h2 h3 (by decide)
  obtain ⟨c, -, c2, c3⟩ := mid (a := 0) (b := 99) h4 h5 (by decide)
  obtain ⟨d, d1, d2, d3⟩ := mid (a := 1) (b := 99) h6 h7 (by decide)
  exact Or.inr ⟨a, b, c, d, a2, b2, c2, d1, d2, a3, b3, c3, d3, rfl⟩
theorem isCB9 (N : Nat) (v0 v1 v2 v3 : Int32) (m m' : mj_m) : f_X9_isSo N v0 v1 v2 v3 m' = f_X8_canBeHouse N v0 v1 v2 v3 m := rfl
theorem gc_shake {m : mj_m} {t : aT} {u : Nat → Int32} (hG : Good t) (h : Rep (cg m 1 8) t u) (hn : t 13 2 < 4) (x : Nat → Nat) : Rep (cg (mj_wI (mj_wI (mj_wI m 6 (t 13 2) (nI (x 11))) 7 (t 13 2) (nI (x 12))) 1 8 (nI (t 13 2 + 1))) 1 8) (grow t 11 12 2 x) u := by
  refine Rep_grow x h hG (by omega) (fun a b hd q1 q2 => ?_) ?_ (fun f f1 f2 => ?_)
  · obtain ⟨d1, d2, d3, d4, d5, d6⟩ := dm_use hd
    rcases cA_fm (b := 1) (d := 8) hd with ⟨q, r⟩ | ⟨q, r⟩ | ⟨q, r⟩ | ⟨q, r⟩ | ⟨q, r⟩ | ⟨q, r⟩ | ⟨q, r⟩ | ⟨q, r⟩ | ⟨q, r⟩ <;>
    (unfold cg gA; rw [r]; dsimp only; rw [wI_n, wI_n, wI_n] <;> omega)
  · exact wI_e
  · rcases (by omega : f = 11 ∨ f = 12) with rfl | rfl
    · show (mj_wI _ _ _ _).1 6 (t 13 2) = _; rw [wI_n (by omega), wI_n (by omega), wI_e]; simp
    · show (mj_wI _ _ _ _).1 7 (t 13 2) = _; rw [wI_n (by omega), wI_e]; simp
theorem gm_shake {m : mj_m} {t : aT} {u : Nat → Int32} (hG : Good t) (h : Rep (mg m) t u) (hn : t 13 2 < 4) (x : Nat → Nat) : Rep (mg (mj_wI (mj_wI (mj_wI m 99 (t 13 2) (nI (x 11))) 100 (t 13 2) (nI (x 12))) 95 2 (nI (t 13 2 + 1)))) (grow t 11 12 2 x) u := by
  refine Rep_grow x h hG (by omega) (fun a b hd q1 q2 => ?_) ?_ (fun f f1 f2 => ?_)
  · obtain ⟨d1, d2, d3, d4, d5, d6⟩ := dm_use hd
    rcases mA_fm hd with ⟨q, r⟩ | ⟨q, r⟩ | ⟨q, r⟩ | ⟨q, r⟩ | ⟨q, r⟩ | ⟨q, r⟩ | ⟨q, r⟩ <;>
    (unfold mg gA; rw [r]; dsimp only; rw [wI_n, wI_n, wI_n] <;> omega)
  · exact wI_e
  · rcases (by omega : f = 11 ∨ f = 12) with rfl | rfl
    · show (mj_wI _ _ _ _).1 99 (t 13 2) = _; rw [wI_n (by omega), wI_n (by omega), wI_e]; simp
    · show (mj_wI _ _ _ _).1 100 (t 13 2) = _; rw [wI_n (by omega), wI_e]; simp
theorem gc_street {m : mj_m} {t : aT} {u : Nat → Int32} (hG : Good t) (h : Rep (cg m 1 8) t u) (hn : t 13 0 < 12) (x : Nat → Nat) : Rep (cg (mj_wI (mj_wI (mj_wI m 2 (t 13 0) (nI (x 9))) 3 (t 13 0) (nI (x 10))) 1 6 (nI (t 13 0 + 1))) 1 8) (grow t 9 10 0 x) u := by
  refine Rep_grow x h hG (by omega) (fun a b hd q1 q2 => ?_) ?_ (fun f f1 f2 => ?_)
  · obtain ⟨d1, d2, d3, d4, d5, d6⟩ := dm_use hd
    rcases cA_fm (b := 1) (d := 8) hd with ⟨q, r⟩ | ⟨q, r⟩ | ⟨q, r⟩ | ⟨q, r⟩ | ⟨q, r⟩ | ⟨q, r⟩ | ⟨q, r⟩ | ⟨q, r⟩ | ⟨q, r⟩ <;>
    (unfold cg gA; rw [r]; dsimp only; rw [wI_n, wI_n, wI_n] <;> omega)
  · exact wI_e
  · rcases (by omega : f = 9 ∨ f = 10) with rfl | rfl
    · show (mj_wI _ _ _ _).1 2 (t 13 0) = _; rw [wI_n (by omega), wI_n (by omega), wI_e]; simp
    · show (mj_wI _ _ _ _).1 3 (t 13 0) = _; rw [wI_n (by omega), wI_e]; simp
theorem gm_street {m : mj_m} {t : aT} {u : Nat → Int32} (hG : Good t) (h : Rep (mg m) t u) (hn : t 13 0 < 12) (x : Nat → Nat) : Rep (mg (mj_wI (mj_wI (mj_wI m 97 (t 13 0) (nI (x 9))) 98 (t 13 0) (nI (x 10))) 95 0 (nI (t 13 0 + 1)))) (grow t 9 10 0 x) u := by
  refine Rep_grow x h hG (by omega) (fun a b hd q1 q2 => ?_) ?_ (fun f f1 f2 => ?_)
  · obtain ⟨d1, d2, d3, d4, d5, d6⟩ := dm_use hd
    rcases mA_fm hd with ⟨q, r⟩ | ⟨q, r⟩ | ⟨q, r⟩ | ⟨q, r⟩ | ⟨q, r⟩ | ⟨q, r⟩ | ⟨q, r⟩ <;>
    (unfold mg gA; rw [r]; dsimp only; rw [wI_n, wI_n, wI_n] <;> omega)
  · exact wI_e
  · rcases (by omega : f = 9 ∨ f = 10) with rfl | rfl
    · show (mj_wI _ _ _ _).1 97 (t 13 0) = _; rw [wI_n (by omega), wI_n (by omega), wI_e]; simp
    · show (mj_wI _ _ _ _).1 98 (t 13 0) = _; rw [wI_n (by omega), wI_e]; simp
theorem isK_eq {n k : Nat} (hn : n ≤ k) (hk : k < 1000) : (nI n = nI k) = (n = k) := propext (nI_eq (by omega) (by omega))
theorem ca_shake {m : mj_m} (h : Rel m) (N : Nat) (v w : Int32) : Both (f_X8_shake N v w) (f_X9_shake N v w) m := by
  obtain ⟨t, u, h1⟩ := h.1
  have hK := RT_nK h1
  by_cases q : ¬ v < 0 ∧ ¬ 99 < v ∧ ¬ w < 0 ∧ w ≤ 9
  · obtain ⟨q1, q2, q3, q4⟩ := q
    have q5 : ¬ 9 < w := fun z => by rw [Int32.le_iff_toInt_le] at q4; rw [Int32.lt_iff_toInt_lt] at z; omega
    obtain ⟨a, -, a2, rfl⟩ := mid (a := 0) (b := 99) q1 q2 (by decide)
    obtain ⟨b, -, b2, rfl⟩ := mid (a := 0) (b := 9) q3 q5 (by decide)
    have e8 : ∀ m, f_X8_shake N (nI a) (nI b) m = (f_X7_addShake N (nI a) (nI b) m).bind (fun r5 => if r5.1 = (-1 : Int32) then ((f_X8_refuse N 7 r5.2).bind (fun r7 => (some (r7.1, r7.2)))) else ((some (r5.1, r5.2)))) := by
      intro m; unfold f_X8_shake; rw [if_neg q1, if_neg q2, if_neg q3, if_pos q4]
    have e9 : ∀ m, f_X9_shake N (nI a) (nI b) m = (if (m.1 95 2) = 4 then ((f_X9_no N (-7 : Int32) m).bind (fun r6 => (some (r6.1, r6.2)))) else ((f_X9_shakes N (nI a) (nI b) m).bind (fun r6 => (some (r6.1, r6.2))))) := by
      intro m; unfold f_X9_shake; rw [if_neg q1, if_neg q2, if_neg q3, if_pos q4]
    rcases (by omega : t 13 2 = 4 ∨ t 13 2 < 4) with z | z
    · refine ⟨-7, rfu m 7, _, ?_, ?_, Rel_rf h 7⟩
      · rw [e8]; unfold f_X7_addShake; rw [c_shakes h1, z, if_neg (by decide), bind_some', if_pos rfl, rf8_7]; rfl
      · rw [e9, m_shakes (RT_rfu h1 7), z, if_pos (by rfl), rf9_7]; rfl
    · let x : Nat → Nat := fun f => if f = 11 then a else b
      have g1 := gc_shake h1.1 h1.2.1 z x
      have hg : Good (grow t 11 12 2 x) := Good_grow x h1.1 (by omega) ⟨by omega, by omega, fun _ => ⟨a2, b2⟩⟩
      refine ⟨nI (t 13 2), mj_wI (mj_wI (mj_wI m 6 (t 13 2) (nI a)) 7 (t 13 2) (nI b)) 1 8 (nI (t 13 2 + 1)), mj_wI (mj_wI (mj_wI (mj_wI (mj_wI (mj_wI m 6 (t 13 2) (nI a)) 7 (t 13 2) (nI b)) 1 8 (nI (t 13 2 + 1))) 99 (t 13 2) (nI a)) 100 (t 13 2) (nI b)) 95 2 (nI (t 13 2 + 1)), ?_, ?_, Rel_N h (t' := grow t 11 12 2 x) (u' := u) ⟨hg, ?_, ?_⟩ (by repeat' (first | exact Eqs_r _ _ | refine Eqs_w ?_ (by unfold okN; omega))) (fun z => RB_wX (RB_wX (RB_wX (RB_wX (RB_wX (RB_wX z (by omega)) (by omega)) (by omega)) (by omega)) (by omega)) (by omega))⟩
      · rw [e8, a8_shake (c_shakes h1) z, bind_some', if_neg (nI_neg _ (by omega))]
      · have c : (mj_wI (mj_wI (mj_wI m 6 (t 13 2) (nI a)) 7 (t 13 2) (nI b)) 1 8 (nI (t 13 2 + 1))).1 95 2 = nI (t 13 2) := by rw [wI_n (by omega), wI_n (by omega), wI_n (by omega)]; exact m_shakes h1
        rw [e9, c, if_neg (by intro y; exact absurd ((nI_eq (a := t 13 2) (b := 4) (by omega) (by omega)).mp y) (by omega)), a9_shake c z]; rfl
      · exact RT_c hg g1 (fun a k q => by unfold okC at q; rw [wI_n (by omega), wI_n (by omega), wI_n (by omega)]; rfl)
      · exact gm_shake h1.1 (RT_m h1.1 h1.2.2 (fun a k q => by unfold okM at q; rw [wI_n (by omega), wI_n (by omega), wI_n (by omega)])) z x
  · have e8 : f_X8_shake N v w m = some (-6, rfu m 6) := by
      have z : f_X8_shake_20 N m = some (-6, rfu m 6) := by unfold f_X8_shake_20; rw [rf8_6]; rfl
      unfold f_X8_shake
      rw [z]
      repeat' split
      all_goals first | rfl | (exfalso; simp_all; done)
    have e9 : f_X9_shake N v w (rfu m 6) = some (-6, rfm (rfu m 6) 6) := by
      have z : f_X9_shake_20 N (rfu m 6) = some (-6, rfm (rfu m 6) 6) := by unfold f_X9_shake_20; rw [rf9_6]; rfl
      unfold f_X9_shake
      rw [z]
      by_cases p1 : v < 0
      · rw [if_pos p1]
      rw [if_neg p1]
      by_cases p2 : 99 < v
      · rw [if_pos p2]
      rw [if_neg p2]
      by_cases p3 : w < 0
      · rw [if_pos p3]
      rw [if_neg p3, if_neg (fun p4 => q ⟨p1, p2, p3, p4⟩)]
    exact ⟨_, _, _, e8, e9, Rel_rf h 6⟩
theorem ca_street {m : mj_m} (h : Rel m) (N : Nat) (v w : Int32) : Both (f_X8_street N v w) (f_X9_street N v w) m := by
  obtain ⟨t, u, h1⟩ := h.1
  have hK := RT_nS h1
  have e80 : f_X8_street_14 N m = some (-1, rfu m 1) := by unfold f_X8_street_14; rw [rf8_1]; rfl
  have e90 : f_X9_street_16 N (rfu m 1) = some (-1, rfm (rfu m 1) 1) := by unfold f_X9_street_16; rw [rf9_1]; rfl
  rcases isC N v m with c1 | ⟨a, a1, rfl, c1⟩
  · refine ⟨-1, rfu m 1, _, ?_, ?_, Rel_rf h 1⟩
    · unfold f_X8_street; rw [c1]; exact e80
    · unfold f_X9_street; rw [isC9 N v m, c1]; exact e90
  rcases isC N w m with c2 | ⟨b, b1, rfl, c2⟩
  · refine ⟨-1, rfu m 1, _, ?_, ?_, Rel_rf h 1⟩
    · unfold f_X8_street; rw [c1, bind_some', if_neg (by decide), c2]; exact e80
    · unfold f_X9_street; rw [isC9 N _ m, c1, bind_some', if_neg (by decide), isC9 N _ m, c2]; exact e90
  by_cases q : nI a = nI b
  · refine ⟨-6, rfu m 6, _, ?_, ?_, Rel_rf h 6⟩
    · unfold f_X8_street; rw [c1, bind_some', if_neg (by decide), c2, bind_some', if_neg (by decide), if_pos q, rf8_6]; rfl
    · unfold f_X9_street; rw [isC9 N _ m, c1, bind_some', if_neg (by decide), isC9 N _ m, c2, bind_some', if_neg (by decide), if_pos q, rf9_6]; rfl
  have e8 : f_X8_street N (nI a) (nI b) m = (f_X7_addStreet N (nI a) (nI b) m).bind (fun r6 => if r6.1 = (-1 : Int32) then ((f_X8_refuse N 7 r6.2).bind (fun r8 => (some (r8.1, r8.2)))) else ((some (r6.1, r6.2)))) := by
    unfold f_X8_street; rw [c1, bind_some', if_neg (by decide), c2, bind_some', if_neg (by decide), if_neg q]
  have e9 : ∀ m', f_X9_street N (nI a) (nI b) m' = (if (m'.1 95 0) = 12 then ((f_X9_no N (-7 : Int32) m').bind (fun r7 => (some (r7.1, r7.2)))) else ((f_X9_streets N (nI a) (nI b) m').bind (fun r7 => (some (r7.1, r7.2))))) := by
    intro m'; unfold f_X9_street; rw [isC9 N _ m, c1, bind_some', if_neg (by decide), isC9 N _ m, c2, bind_some', if_neg (by decide), if_neg q]
  rcases (by omega : t 13 0 = 12 ∨ t 13 0 < 12) with z | z
  · refine ⟨-7, rfu m 7, _, ?_, ?_, Rel_rf h 7⟩
    · rw [e8]; unfold f_X7_addStreet; rw [c_streets h1, z, if_neg (by decide), bind_some', if_pos rfl, rf8_7]; rfl
    · rw [e9, m_streets (RT_rfu h1 7), z, if_pos (by rfl), rf9_7]; rfl
  · let x : Nat → Nat := fun f => if f = 9 then a else b
    have g1 := gc_street h1.1 h1.2.1 z x
    have hg : Good (grow t 9 10 0 x) := Good_grow x h1.1 (by omega) ⟨fun _ => ⟨a1, b1⟩, by omega, by omega⟩
    refine ⟨nI (t 13 0), mj_wI (mj_wI (mj_wI m 2 (t 13 0) (nI a)) 3 (t 13 0) (nI b)) 1 6 (nI (t 13 0 + 1)), mj_wI (mj_wI (mj_wI (mj_wI (mj_wI (mj_wI m 2 (t 13 0) (nI a)) 3 (t 13 0) (nI b)) 1 6 (nI (t 13 0 + 1))) 97 (t 13 0) (nI a)) 98 (t 13 0) (nI b)) 95 0 (nI (t 13 0 + 1)), ?_, ?_, Rel_N h (t' := grow t 9 10 0 x) (u' := u) ⟨hg, ?_, ?_⟩ (by repeat' (first | exact Eqs_r _ _ | refine Eqs_w ?_ (by unfold okN; omega))) (fun z => RB_wX (RB_wX (RB_wX (RB_wX (RB_wX (RB_wX z (by omega)) (by omega)) (by omega)) (by omega)) (by omega)) (by omega))⟩
    · rw [e8, a8_street (c_streets h1) z, bind_some', if_neg (nI_neg _ (by omega))]
    · have c : (mj_wI (mj_wI (mj_wI m 2 (t 13 0) (nI a)) 3 (t 13 0) (nI b)) 1 6 (nI (t 13 0 + 1))).1 95 0 = nI (t 13 0) := by rw [wI_n (by omega), wI_n (by omega), wI_n (by omega)]; exact m_streets h1
      rw [e9, c, if_neg (by intro y; exact absurd ((nI_eq (a := t 13 0) (b := 12) (by omega) (by omega)).mp y) (by omega)), a9_street c z]; rfl
    · exact RT_c hg g1 (fun a k q => by unfold okC at q; rw [wI_n (by omega), wI_n (by omega), wI_n (by omega)]; rfl)
    · exact gm_street h1.1 (RT_m h1.1 h1.2.2 (fun a k q => by unfold okM at q; rw [wI_n (by omega), wI_n (by omega), wI_n (by omega)])) z x
theorem h8w_n {m : mj_m} {n : Nat} {c w d e k : Int32} {A K : Nat} (q : A = 0 ∨ 18 ≤ A) (hn : n < 10) : (h8w m n c w d e k).1 A K = m.1 A K := by
  unfold h8w
  rw [wI_n, wI_n, wI_n, wI_n, wI_n, wI_n, wI_n, wI_n, wI_n, wI_n] <;> omega
theorem RB_h8w {m : mj_m} {n : Nat} {c w d e k : Int32} (h : RB m) : RB (h8w m n c w d e k) := by
  unfold h8w
  exact RB_wX (RB_wX (RB_wX (RB_wX (RB_wX (RB_wX (RB_wX (RB_wX (RB_wX (RB_wX h (by omega)) (by omega)) (by omega)) (by omega)) (by omega)) (by omega)) (by omega)) (fun _ _ _ => Or.inl rfl)) (by omega)) (by omega)
theorem RB_h9w {m : mj_m} {n : Nat} {c w d e k : Int32} (h : RB m) : RB (h9w m n c w d e k) := by
  unfold h9w
  exact RB_wX (RB_wX (RB_wX (RB_wX (RB_wX (RB_wX (RB_wX (RB_wX (RB_wX (RB_wX h (by omega)) (by omega)) (by omega)) (by omega)) (by omega)) (by omega)) (by omega)) (by omega)) (by omega)) (by omega)
theorem h9w_n {m : mj_m} {n : Nat} {c w d e k : Int32} {A K : Nat} (q : A < 95) : (h9w m n c w d e k).1 A K = m.1 A K := by
  unfold h9w
  rw [wI_n, wI_n, wI_n, wI_n, wI_n, wI_n, wI_n, wI_n, wI_n, wI_n] <;> omega
/-- one house more on both sides -/
theorem hRel {m : mj_m} {t : aT} {u : Nat → Int32} (h : Rel m) (h1 : RT m t u) (z : t 13 1 < 10) (a b c d e : Nat) (ha : a < 8) (hb : b ≤ 9) (hc : c ≤ 99) (hd : d ≤ 99) (he : 1 ≤ e ∧ e ≤ 99) : Rel (h9w (h8w m (t 13 1) (nI a) (nI b) (nI c) (nI d) (nI e)) (t 13 1) (nI a) (nI b) (nI c) (nI d) (nI e)) ∧ ∃ t', RT (h9w (h8w m (t 13 1) (nI a) (nI b) (nI c) (nI d) (nI e)) (t 13 1) (nI a) (nI b) (nI c) (nI d) (nI e)) t' u ∧ t' 13 1 = t 13 1 + 1 := by
  let x : Nat → Nat := fun f => if f = 0 then a else if f = 1 then b else if f = 2 then c else if f = 3 then d else if f = 4 then e else 0
  have hg : Good (grow t 0 8 1 x) := Good_grow x h1.1 (by omega) ⟨by omega, fun _ => by show a < 8 ∧ b ≤ 9 ∧ c ≤ 99 ∧ d ≤ 99 ∧ (1 ≤ e ∧ e ≤ 99) ∧ 0 ≤ _ ∧ 0 ≤ _ ∧ 0 ≤ 2 ∧ 0 ≤ 1; omega, by omega⟩
  have g1 := gc_house h1.1 h1.2.1 z x rfl rfl rfl rfl
  have r : RT (h9w (h8w m (t 13 1) (nI a) (nI b) (nI c) (nI d) (nI e)) (t 13 1) (nI a) (nI b) (nI c) (nI d) (nI e)) (grow t 0 8 1 x) u := by
    refine ⟨hg, ?_, ?_⟩
    · exact RT_c hg g1 (fun a k q => by unfold okC at q; exact h9w_n (by omega))
    · exact gm_house h1.1 (RT_m h1.1 h1.2.2 (fun a k q => by unfold okM at q; exact h8w_n (by omega) z)) z x rfl rfl rfl rfl
  refine ⟨Rel_N h r ?_ (fun z => RB_h9w (RB_h8w z)), _, r, ?_⟩
  · unfold h9w h8w
    repeat' (first | exact Eqs_r _ _ | refine Eqs_w ?_ (by unfold okN; omega))
  · unfold grow; rw [if_pos ⟨rfl, rfl⟩]
theorem ca_house {m : mj_m} (h : Rel m) (N : Nat) (v1 v2 v3 v4 v5 : Int32) : Both (f_X8_house N v1 v2 v3 v4 v5) (f_X9_house N v1 v2 v3 v4 v5) m := by
  obtain ⟨t, u, h1⟩ := h.1
  have hK := RT_nH h1
  rcases isC N v1 m with c1 | ⟨a, a1, rfl, c1⟩
  · refine ⟨-1, rfu m 1, _, ?_, ?_, Rel_rf h 1⟩
    · unfold f_X8_house; rw [c1, bind_some', if_pos rfl, rf8_1]; rfl
    · unfold f_X9_house; rw [isC9 N v1 m, c1, bind_some', if_pos rfl, rf9_1]; rfl
  rcases isCB N v2 v3 v4 v5 m with c2 | ⟨b, c, d, e, b1, b2, b3, b4, b5, rfl, rfl, rfl, rfl, c2⟩
  · refine ⟨-6, rfu m 6, _, ?_, ?_, Rel_rf h 6⟩
    · unfold f_X8_house; rw [c1, bind_some', if_neg (by decide), c2, bind_some', if_pos rfl, rf8_6]; rfl
    · unfold f_X9_house; rw [isC9 N _ m, c1, bind_some', if_neg (by decide), isCB9 N v2 v3 v4 v5 m, c2, bind_some', if_pos rfl, rf9_6]; rfl
  rcases (by omega : t 13 1 = 10 ∨ t 13 1 < 10) with z | z
  · refine ⟨-7, rfu m 7, _, ?_, ?_, Rel_rf h 7⟩
    · unfold f_X8_house f_X7_addHouse; rw [c1, bind_some', if_neg (by decide), c2, bind_some', if_neg (by decide), c_houses h1, z, if_neg (by decide), bind_some', if_pos rfl, rf8_7]; rfl
    · unfold f_X9_house; rw [isC9 N _ m, c1, bind_some', if_neg (by decide), isCB9 N _ _ _ _ m, c2, bind_some', if_neg (by decide), m_houses (RT_rfu h1 7), z, if_pos (by rfl), rf9_7]; rfl
  · refine ⟨nI (t 13 1), h8w m (t 13 1) (nI a) (nI b) (nI c) (nI d) (nI e), _, ?_, ?_, (hRel h h1 z a b c d e a1 b1 b2 b3 ⟨b4, b5⟩).1⟩
    · unfold f_X8_house; rw [c1, bind_some', if_neg (by decide), c2, bind_some', if_neg (by decide), a8_house (c_houses h1) z, bind_some', if_neg (nI_neg _ (by omega))]
    · have c : (h8w m (t 13 1) (nI a) (nI b) (nI c) (nI d) (nI e)).1 95 1 = nI (t 13 1) := by rw [h8w_n (by omega) z]; exact m_houses h1
      unfold f_X9_house
      rw [isC9 N _ m, c1, bind_some', if_neg (by decide), isCB9 N _ _ _ _ m, c2, bind_some', if_neg (by decide), c, if_neg (by intro y; exact absurd ((nI_eq (a := t 13 1) (b := 10) (by omega) (by omega)).mp y) (by omega)), a9_house c z]; rfl
