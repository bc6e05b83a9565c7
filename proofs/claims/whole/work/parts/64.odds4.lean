/-! THE CLASS WEIGHS, further: people, harm -/
def Wst (m : mj_m) (t : aT) (pe : Nat → Nat) (C : Int64) (hm : Nat → Int64) : Prop := m.1 36 9 = nI (LT t).length ∧ (m.1 36 10).toInt64 = C ∧ Cells m (LT t) ∧ (∀ h, h < t 13 1 → m.1 38 h = nI (pe h)) ∧ (∀ s, s < 2 ^ (LT t).length → m.1 41 s = nI (cutN t (sbN t (LT t) s))) ∧ (∀ s, s < 2 ^ (LT t).length → m.2 42 s = hm s)
def zW : W1 := fun _ => 0
theorem lN_ad (a b : Nat) : lN (a + b) = lN a + lN b := Int64.ofNat_add a b
theorem wv_at {t : aT} (P : Nat → Int64) (C : Int64) {s i x : Nat} (hi : i < (LT t).length) (hx : sfx (LT t) (i + 1) = x :: sfx (LT t) i) : wv P C (t 0) (cutP t) x (mem (LT t) s) = if s.testBit i = true then 10 * P x else if (cutN t (sbN t (LT t) s)).testBit (t 0 x) = true then C * P x else 0 := by
  unfold wv
  rw [mem_at (L := LT t) (frL_nd _ _) s hi hx, cutP_mem]
theorem harm8 {m : mj_m} {t : aT} {u : Nat → Int32} (hG : Good t) (g : Rep (cg m 1 8) t u) {pe : Nat → Nat} {C : Int64} (h1 : m.1 36 9 = nI (LT t).length) (h2 : (m.1 36 10).toInt64 = C) (h3 : Cells m (LT t)) (h4 : ∀ h, h < t 13 1 → m.1 38 h = nI (pe h)) (h4' : ∀ h, h < t 13 1 → pe h ≤ 990) (h5 : ∀ s, s < 2 ^ (LT t).length → m.1 41 s = nI (cutN t (sbN t (LT t) s))) {s : Nat} (hs : s < 2 ^ (LT t).length) {N : Nat} (hN : 20 ≤ N) : f_X2_harmOf N (nI s) m = some (hmL (fun h => lN (pe h)) C t zW (LT t) (mem (LT t) s)) := by
  have ll := LT_len hG
  have gh := GH hG
  have p10 : 2 ^ (LT t).length ≤ 1024 := (Nat.pow_le_pow_right (by decide) ll : 2 ^ (LT t).length ≤ 2 ^ 10)
  unfold f_X2_harmOf
  obtain ⟨st, ⟨d, c, e1, e2, e3, e4⟩, h6⟩ := lp_cnt (B := f_X2_harmOf_7 N (nI s) m) (E := fun st => some ((10 * (st.1.toInt64)) + (((m.1 36 10).toInt64) * (st.2.1.toInt64)))) (c := (LT t).length) (N := N) (s0 := (0, 0, 0)) (fun i st => ∃ d c : Nat, st = (nI d, nI c, nI i) ∧ d ≤ 990 * i ∧ c ≤ 990 * i ∧ 10 * lN d + C * lN c = hmL (fun h => lN (pe h)) C t zW (sfx (LT t) i) (mem (LT t) s)) (by omega)
    ⟨0, 0, rfl, by omega, by omega, by rw [sfx_0]; show 10 * (0 : Int64) + C * 0 = 0; grind⟩
    (fun i st hi ⟨d, c, e1, e2, e3, e4⟩ => by
      obtain ⟨x, hx, xl⟩ := sfx_s hi
      have xh := (frL_lt _ _ _ xl).1
      have px := h4' x xh
      have cor := (hG.2.1 x xh).1
      have key : hmL (fun h => lN (pe h)) C t zW (sfx (LT t) (i + 1)) (mem (LT t) s) = hmL (fun h => lN (pe h)) C t zW (sfx (LT t) i) (mem (LT t) s) + (if s.testBit i = true then 10 * lN (pe x) else if (cutN t (sbN t (LT t) s)).testBit (t 0 x) = true then C * lN (pe x) else 0) := by
        rw [hx, ← wv_at (fun h => lN (pe h)) C hi hx]; rfl
      rw [← e4] at key
      have unf : ∀ k, f_X2_harmOf_7 N (nI s) m k st = if s.testBit i = true then k (nI (d + pe x), nI c, nI (i + 1)) else if (cutN t (sbN t (LT t) s)).testBit (t 0 x) = true then k (nI d, nI (c + pe x), nI (i + 1)) else k (nI d, nI c, nI (i + 1)) := by
        intro k
        unfold f_X2_harmOf_7 f_X2_harmOf_82
        rw [e1]
        dsimp only
        rw [h1, if_neg (nI_ge hi (by omega)), mj_ck_t (bb_37 (by omega)), nI_clamp (show i < 2 ^ 31 by omega), h3 i x hi hx, mw_eq]
        have k38 : mj_b 0 38 (nI x) = true := bb_38 (by omega)
        simp only [mj_ck_t k38, mw_eq]
        rw [mj_ck_t (bb_41 (by omega)), mj_ck_t (bb_4 (by omega)), nI_clamp (show x < 2 ^ 31 by omega), nI_clamp (show s < 2 ^ 31 by omega), h5 s hs, x_corner g xh, h4 x xh]
        by_cases q : s.testBit i = true
        · rw [if_neg (fun z => by rw [(n_bit0 s (by omega)).mp z] at q; cases q), if_pos q, nI_add, nI_succ]
        · rw [if_pos ((n_bit0 s (by omega)).mpr (Bool.eq_false_iff.mpr q)), if_neg q]
          by_cases y : (cutN t (sbN t (LT t) s)).testBit (t 0 x) = true
          · rw [if_neg (fun z => by rw [(n_bit0 _ (by omega)).mp z] at y; cases y), if_pos y, nI_add, nI_succ]
          · rw [if_pos ((n_bit0 _ (by omega)).mpr (Bool.eq_false_iff.mpr y)), if_neg y, nI_succ]
      by_cases q : s.testBit i = true
      · refine ⟨_, ⟨d + pe x, c, rfl, by omega, by omega, ?_⟩, fun k => by rw [unf k, if_pos q]⟩
        rw [key, if_pos q, lN_ad]; exact (by intro a b c d; grind : ∀ a b c d : Int64, 10 * (a + b) + c * d = 10 * a + c * d + 10 * b) _ _ _ _
      · by_cases y : (cutN t (sbN t (LT t) s)).testBit (t 0 x) = true
        · refine ⟨_, ⟨d, c + pe x, rfl, by omega, by omega, ?_⟩, fun k => by rw [unf k, if_neg q, if_pos y]⟩
          rw [key, if_neg q, if_pos y, lN_ad]; exact (by intro a b c d; grind : ∀ a b c d : Int64, 10 * a + c * (d + b) = 10 * a + c * d + c * b) _ _ _ _
        · refine ⟨_, ⟨d, c, rfl, by omega, by omega, ?_⟩, fun k => by rw [unf k, if_neg q, if_neg y]⟩
          rw [key, if_neg q, if_neg y]; exact (by intro a; grind : ∀ a : Int64, a = a + 0) _)
    (fun st ⟨d, c, e1, _, _, _⟩ k => by
      unfold f_X2_harmOf_7
      rw [e1]
      dsimp only
      rw [h1, if_pos (nI_le (by omega) (by omega))])
  rw [h6, e1, h2]
  show some (10 * (nI d).toInt64 + C * (nI c).toInt64) = _
  rw [nI_l (by omega), nI_l (by omega), e4, sfx_all]
theorem weigh8 {m : mj_m} {t : aT} {u : Nat → Int32} (hG : Good t) (g : Rep (cg m 1 8) t u) (v1 v2 v3 : Int32) {pe : Nat → Nat} (hp : ∀ h, h < t 13 1 → v2 * nI (t 2 h) + v3 * nI (t 3 h) = nI (pe h) ∧ pe h ≤ 990) {N : Nat} (hN : 1100 ≤ N) : ∃ m', f_X2_weigh N v1 v2 v3 m = some m' ∧ Wst m' t pe v1.toInt64 (fun s => hmL (fun h => lN (pe h)) v1.toInt64 t zW (LT t) (mem (LT t) s)) ∧ Od m m' := by
  have ll := LT_len hG
  have gh := GH hG
  have p10 : 2 ^ (LT t).length ≤ 1024 := (Nat.pow_le_pow_right (by decide) ll : 2 ^ (LT t).length ≤ 2 ^ 10)
  obtain ⟨m1, a1, a2, a3, a4, -⟩ := fronted8 hG g (N := N) (by omega)
  obtain ⟨m2, b1, b2, b3, b4, b5, -⟩ := cutBy8 hG (Od_c hG g a4) rfl a2 a3 hN
  have o2 := Od_t a4 b5
  unfold f_X2_weigh
  rw [a1, bind_some', b1, bind_some', mw_eq]
  obtain ⟨s, ⟨-, c2, c3, c4, c5, c6⟩, c7⟩ := lp_cnt (B := f_X2_weigh_16 N v2 v3) (E := fun s => mj_lp N (f_X2_weigh_75 N) (0, s.2)) (c := t 13 1) (N := N) (s0 := (0, mj_wI m2 36 10 v1)) (fun i s => s.1 = nI i ∧ (∀ h, h < i → s.2.1 38 h = nI (pe h)) ∧ Od m s.2 ∧ (∀ k, s.2.1 37 k = m2.1 37 k ∧ s.2.1 41 k = m2.1 41 k) ∧ s.2.1 36 9 = m2.1 36 9 ∧ s.2.1 36 10 = v1) (by omega)
    ⟨rfl, fun h hh => absurd hh (Nat.not_lt_zero h), Od_w o2 (by omega), fun k => ⟨wI_n (by omega), wI_n (by omega)⟩, wI_n (by omega), wI_e⟩
    (fun i s hi ⟨e1, e2, e3, e4, e5, e6⟩ => by
      have gs := Od_c hG g e3
      refine ⟨(nI (i + 1), mj_wI s.2 38 i (nI (pe i))), ⟨rfl, fun h hh => ?_, Od_w e3 (by omega), fun k => ⟨by rw [wI_n (by omega)]; exact (e4 k).1, by rw [wI_n (by omega)]; exact (e4 k).2⟩, by rw [wI_n (by omega)]; exact e5, by rw [wI_n (by omega)]; exact e6⟩, fun k => ?_⟩
      · by_cases y : h = i
        · rw [y, wI_e]
        · rw [wI_n (by omega)]; exact e2 h (by omega)
      · unfold f_X2_weigh_16
        rw [x_houses gs, e1, if_neg (nI_ge hi (by omega)), mj_ck_t (bb_4 (by omega)), mj_ck_t (bb_38 (by omega)), nI_clamp (by omega), x_day gs hi, x_night gs hi, (hp i hi).1, mw_eq, mw_eq, nI_succ])
    (fun s ⟨e1, _, e3, _, _, _⟩ k => by
      have gs := Od_c hG g e3
      unfold f_X2_weigh_16
      rw [x_houses gs, e1, if_pos (nI_le (by omega) (by omega))])
  rw [c7]
  have q9 : s.2.1 36 9 = nI (LT t).length := c5.trans b3
  obtain ⟨s', ⟨-, d2, d3, d4, d5⟩, d6⟩ := lp_cnt (B := f_X2_weigh_75 N) (E := fun s => some s.2) (c := 2 ^ (LT t).length) (N := N) (s0 := (0, s.2)) (fun i s' => s'.1 = nI i ∧ (∀ r, r < i → s'.2.2 42 r = hmL (fun h => lN (pe h)) v1.toInt64 t zW (LT t) (mem (LT t) r)) ∧ Od m s'.2 ∧ s'.2.1 = s.2.1 ∧ True) (by omega)
    ⟨rfl, fun r hr => absurd hr (Nat.not_lt_zero r), c3, rfl, trivial⟩
    (fun i s' hi ⟨e1, e2, e3, e4, _⟩ => by
      have gs := Od_c hG g e3
      have hv := harm8 (m := s'.2) (C := v1.toInt64) (pe := pe) hG gs (by rw [e4]; exact q9) (by rw [e4, c6]) (fun j x hj hx => by rw [e4, (c4 j).1]; exact b4 j x hj hx) (fun h hh => by rw [e4]; exact c2 h hh) (fun h hh => (hp h hh).2) (fun r hr => by rw [e4, (c4 r).2]; exact (b2 r hr).2) hi (N := N) (by omega)
      refine ⟨(nI (i + 1), mj_wL s'.2 42 i (hmL (fun h => lN (pe h)) v1.toInt64 t zW (LT t) (mem (LT t) i))), ⟨rfl, fun r hr => ?_, Od_L e3 (by omega), e4, trivial⟩, fun k => ?_⟩
      · by_cases y : r = i
        · rw [y, wL_e]
        · rw [wL_n (by omega)]; exact e2 r (by omega)
      · unfold f_X2_weigh_75
        rw [e4, q9, n_shl _ (by omega), e1, if_neg (nI_ge hi (by omega)), hv, bind_some', mj_ck_t (bb_42 (by omega)), nI_clamp (by omega), mw_eq, mw_eq, nI_succ])
    (fun s' ⟨e1, _, _, e4, _⟩ k => by
      unfold f_X2_weigh_75
      rw [e4, q9, n_shl _ (by omega), e1, if_pos (nI_le (by omega) (by omega))])
  refine ⟨s'.2, d6, ⟨by rw [d4]; exact q9, by rw [d4, c6], fun j x hj hx => by rw [d4, (c4 j).1]; exact b4 j x hj hx, fun h hh => by rw [d4]; exact c2 h hh, fun r hr => by rw [d4, (c4 r).2]; exact (b2 r hr).2, d2⟩, d3⟩
/-- by the year: the people of day and night by their parts -/
def pyN (t : aT) (h : Nat) : Nat := t 13 5 * t 2 h + (10 - t 13 5) * t 3 h
theorem pyN_le {t : aT} (hG : Good t) {h : Nat} (hh : h < t 13 1) : pyN t h ≤ 990 := by
  obtain ⟨-, -, h2, h3, -⟩ := hG.2.1 h hh
  have h5 := hG.1.2.2.2.2.2
  unfold pyN
  have a1 : t 13 5 * t 2 h ≤ t 13 5 * 99 := Nat.mul_le_mul_left _ h2
  have a2 : (10 - t 13 5) * t 3 h ≤ (10 - t 13 5) * 99 := Nat.mul_le_mul_left _ h3
  omega
theorem ten_sub {a : Nat} (h : a ≤ 10) : (10 : Int32) - nI a = nI (10 - a) := by
  apply Int32.toInt_inj.mp
  rw [show (10 : Int32) = nI 10 from rfl, nI_subI (by omega) (by omega), nI_toInt (by omega)]
  omega
theorem weighYear8 {m : mj_m} {t : aT} {u : Nat → Int32} (hG : Good t) (g : Rep (cg m 1 8) t u) {N : Nat} (hN : 1100 ≤ N) : ∃ m', f_X2_weighYear N m = some m' ∧ Wst m' t (pyN t) (lN (t 13 4)) (fun s => hmL (fun h => lN (pyN t h)) (lN (t 13 4)) t zW (LT t) (mem (LT t) s)) ∧ Od m m' := by
  have h4 := hG.1.2.2.2.2.1
  have h5 := hG.1.2.2.2.2.2
  have c1 : m.1 1 10 = nI (t 13 4) := x_shut g
  have c2 : m.1 1 11 = nI (t 13 5) := x_daypart g
  obtain ⟨m', a1, a2, a3⟩ := weigh8 hG g (nI (t 13 4)) (nI (t 13 5)) (nI (10 - t 13 5)) (pe := pyN t) (fun h hh => ⟨by rw [nI_mul, nI_mul, nI_add]; rfl, pyN_le hG hh⟩) hN
  rw [nI_l (by omega)] at a2
  refine ⟨m', ?_, a2, a3⟩
  unfold f_X2_weighYear
  rw [c1, c2, ten_sub h5, a1]; rfl
theorem fillI {a n : Nat} (ha : a < 128) (hsh : mj_sh a = (0, n)) (hn : n < 1000) {N : Nat} (hN : 1100 ≤ N) (m : mj_m) (v : Int32) : ∃ m', f_J7_fill_53178 N a v m = some m' ∧ (∀ k, k < n → m'.1 a k = v) ∧ (∀ A k, A ≠ a → m'.1 A k = m.1 A k) ∧ m'.2 = m.2 := by
  unfold f_J7_fill_53178
  have ar : mj_ar 0 a = true := by unfold mj_ar; rw [hsh]; simp; omega
  rw [mj_ck_t ar, mw_eq, hsh]
  obtain ⟨s, ⟨-, h2, h3, h4⟩, h5⟩ := lp_cnt (B := f_J7_fill_53178_5 N a v (Int32.ofNat n)) (E := fun s => some s.2) (c := n) (N := N) (s0 := (0, m)) (fun i s => s.1 = nI i ∧ (∀ k, k < i → s.2.1 a k = v) ∧ (∀ A k, A ≠ a → s.2.1 A k = m.1 A k) ∧ s.2.2 = m.2) (by omega)
    ⟨rfl, fun k hk => absurd hk (Nat.not_lt_zero k), fun _ _ _ => rfl, rfl⟩
    (fun i s hi ⟨e1, e2, e3, e4⟩ => by
      refine ⟨(nI (i + 1), mj_wI s.2 a i v), ⟨rfl, fun k hk => ?_, fun A k hA => by rw [wI_n (by omega)]; exact e3 A k hA, e4⟩, fun k => ?_⟩
      · by_cases y : k = i
        · rw [y, wI_e]
        · rw [wI_n (by omega)]; exact e2 k (by omega)
      · unfold f_J7_fill_53178_5
        rw [e1, show Int32.ofNat n = nI n from rfl, if_neg (nI_ge hi (by omega)), mj_ck_t (b_nI ha hsh hi (by omega)), nI_clamp (by omega), mw_eq, mw_eq, nI_succ])
    (fun s ⟨e1, _, _, _⟩ k => by
      unfold f_J7_fill_53178_5
      rw [e1, show Int32.ofNat n = nI n from rfl, if_pos (nI_le (by omega) (by omega))])
  exact ⟨s.2, h5, h2, h3, h4⟩
theorem weighCut8 {m : mj_m} {t : aT} {u : Nat → Int32} (hG : Good t) (g : Rep (cg m 1 8) t u) {c : Nat} (hc : c < 8) {N : Nat} (hN : 1100 ≤ N) : ∃ m' C, f_X2_weighCut N (nI c) m = some m' ∧ Wst m' t (fun _ => 0) C (fun s => if (cutN t (sbN t (LT t) s)).testBit c = true then 1 else 0) ∧ Od m m' := by
  have ll := LT_len hG
  have gh := GH hG
  have p10 : 2 ^ (LT t).length ≤ 1024 := (Nat.pow_le_pow_right (by decide) ll : 2 ^ (LT t).length ≤ 2 ^ 10)
  obtain ⟨m1, a1, a2, a3, a4, -⟩ := fronted8 hG g (N := N) (by omega)
  obtain ⟨m2, b1, b2, b3, b4, b5, -⟩ := cutBy8 hG (Od_c hG g a4) rfl a2 a3 hN
  have o2 := Od_t a4 b5
  obtain ⟨m3, c1, c2, c3, c4⟩ := fillI (a := 38) (n := 10) (by decide) rfl (by decide) hN m2 0
  have o3 : Od m m3 := Od_t o2 ⟨fun a k q => c3 a k (by omega), fun a k q => by rw [c4]⟩
  have q9 : m3.1 36 9 = nI (LT t).length := (c3 36 9 (by omega)).trans b3
  unfold f_X2_weighCut
  rw [a1, bind_some', b1, bind_some', c1, bind_some']
  obtain ⟨s', ⟨-, d2, d3, d4, d5⟩, d6⟩ := lp_cnt (B := f_X2_weighCut_18 N (nI c)) (E := fun s => some s.2) (c := 2 ^ (LT t).length) (N := N) (s0 := (0, m3)) (fun i s' => s'.1 = nI i ∧ (∀ r, r < i → s'.2.2 42 r = if (cutN t (sbN t (LT t) r)).testBit c = true then 1 else 0) ∧ Od m s'.2 ∧ s'.2.1 = m3.1 ∧ True) (by omega)
    ⟨rfl, fun r hr => absurd hr (Nat.not_lt_zero r), o3, rfl, trivial⟩
    (fun i s' hi ⟨e1, e2, e3, e4, _⟩ => by
      refine ⟨(nI (i + 1), mj_wL s'.2 42 i (if (cutN t (sbN t (LT t) i)).testBit c = true then 1 else 0)), ⟨rfl, fun r hr => ?_, Od_L e3 (by omega), e4, trivial⟩, fun k => ?_⟩
      · by_cases y : r = i
        · rw [y, wL_e]
        · rw [wL_n (by omega)]; exact e2 r (by omega)
      · unfold f_X2_weighCut_18
        rw [e4, q9, n_shl _ (by omega), e1, if_neg (nI_ge hi (by omega)), mj_ck_t (bb_41 (by omega)), mj_ck_t (bb_42 (by omega)), nI_clamp (by omega), c3 41 i (by omega), (b2 i hi).2, n_bit _ (by omega), mw_eq, mw_eq, nI_succ]
        by_cases y : (cutN t (sbN t (LT t) i)).testBit c = true
        · rw [if_pos y, if_pos y]; rfl
        · rw [if_neg y, if_neg y]; rfl)
    (fun s' ⟨e1, _, _, e4, _⟩ k => by
      unfold f_X2_weighCut_18
      rw [e4, q9, n_shl _ (by omega), e1, if_pos (nI_le (by omega) (by omega))])
  exact ⟨s'.2, (m3.1 36 10).toInt64, d6, ⟨by rw [d4]; exact q9, by rw [d4], fun j x hj hx => by rw [d4, c3 37 j (by omega)]; exact b4 j x hj hx, fun h hh => by rw [d4, c2 h (by omega)]; rfl, fun r hr => by rw [d4, c3 41 r (by omega)]; exact (b2 r hr).2, d2⟩, d3⟩
