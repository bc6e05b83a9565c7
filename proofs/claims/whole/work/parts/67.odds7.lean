/-! THE REFERENCE SUMS: odds of all sets, worths, what is lost, the mean -/
theorem or_pw {j h : Nat} (hj : j < 2 ^ h) : j ||| 2 ^ h = 2 ^ h + j := by
  have := Nat.two_pow_add_eq_or_of_lt hj 1
  rw [Nat.mul_one] at this
  rw [this, Nat.or_comm]
theorem odds9 {m : mj_m} {t : aT} {u : Nat → Int32} (hG : Good t) (g : Rep (mg m) t u) {st : Nat → Nat} (hs : StA m 108 t st) {k : Nat} (hk : k < t 13 2) {N : Nat} (hN : 1100 ≤ N) : ∃ m', f_X9_oddsBy N (nI k) m = some m' ∧ (∀ r, r < 2 ^ t 13 1 → m'.2 121 r = odN (fun h => lN (fN t st h k)) (t 13 1) r) ∧ m'.1 = m.1 ∧ (∀ A K, A ≠ 121 → m'.2 A K = m.2 A K) := by
  have gh := GH hG
  generalize hF : (fun h => lN (fN t st h k)) = F
  have hF' : ∀ h, F h = lN (fN t st h k) := fun h => by rw [← hF]
  have inner : ∀ (h : Nat) (m1 : mj_m), h < t 13 1 → (∀ r, r < 2 ^ h → m1.2 121 r = odN F h r) → ∃ m' : mj_m, (∀ r, r < 2 ^ (h + 1) → m'.2 121 r = odN F (h + 1) r) ∧ m'.1 = m1.1 ∧ (∀ A K, A ≠ 121 → m'.2 A K = m1.2 A K) ∧ ∀ κ : Int32 × mj_m → Option mj_m, mj_lp N (f_X9_oddsBy_27 N κ (nI k) (nI h) (nI (fN t st h k))) (0, m1) = κ (nI (h + 1), m') := by
    intro h m1 hh h1
    have p10 : 2 ^ (h + 1) ≤ 1024 := (Nat.pow_le_pow_right (by decide) (by omega) : 2 ^ (h + 1) ≤ 2 ^ 10)
    have p2 : 2 ^ (h + 1) = 2 ^ h + 2 ^ h := by rw [Nat.pow_succ]; omega
    have lo : ∀ r, r < 2 ^ h → odN F (h + 1) r = odN F h r * (10 - F h) := fun r hr => if_neg (by omega)
    have up : ∀ r, r < 2 ^ h → odN F (h + 1) (2 ^ h + r) = odN F h r * F h := fun r hr => by
      show (if 2 ^ h ≤ 2 ^ h + r then odN F h (2 ^ h + r - 2 ^ h) * F h else _) = _
      rw [if_pos (by omega), show 2 ^ h + r - 2 ^ h = r by omega]
    obtain ⟨s, ⟨-, r2, r3, r4, r5⟩, r6⟩ := lp_cntK (K := Int32 × mj_m → Option mj_m) (B := fun κ => f_X9_oddsBy_27 N κ (nI k) (nI h) (nI (fN t st h k))) (E := fun κ s => κ (nI (h + 1), s.2)) (c := 2 ^ h) (N := N) (s0 := (0, m1)) (fun j s => s.1 = nI j ∧ (∀ r, r < j → s.2.2 121 r = odN F (h + 1) r ∧ s.2.2 121 (2 ^ h + r) = odN F (h + 1) (2 ^ h + r)) ∧ (∀ r, j ≤ r → r < 2 ^ h → s.2.2 121 r = odN F h r) ∧ s.2.1 = m1.1 ∧ (∀ A K, A ≠ 121 → s.2.2 A K = m1.2 A K)) (by omega)
      ⟨rfl, fun r hr => absurd hr (Nat.not_lt_zero r), fun r _ hr => h1 r hr, rfl, fun _ _ _ => rfl⟩
      (fun j s hj ⟨e1, e2, e3, e4, e5⟩ => by
        refine ⟨(nI (j + 1), mj_wL (mj_wL s.2 121 (2 ^ h + j) (odN F h j * F h)) 121 j (odN F h j * (10 - F h))), ⟨rfl, fun r hr => ?_, fun r q1 q2 => ?_, e4, fun A K hA => by rw [wL_n (by omega), wL_n (by omega)]; exact e5 A K hA⟩, fun κ k' => ?_⟩
        · by_cases y : r = j
          · subst y
            rw [wL_e, wL_n (by omega), wL_e, lo r hj, up r hj]; exact ⟨rfl, rfl⟩
          · rw [wL_n (by omega), wL_n (by omega), wL_n (by omega), wL_n (by omega)]; exact e2 r (by omega)
        · rw [wL_n (by omega), wL_n (by omega)]; exact e3 r (by omega) q2
        · have z := fN_le t st h k
          unfold f_X9_oddsBy_27
          rw [n_shl h (by omega), e1, if_neg (nI_ge hj (by omega)), n_or, or_pw hj, mj_ck_t (bb_121 (by omega)), mj_ck_t (bb_121 (by omega)), nI_clamp (show j < 2 ^ 31 by omega), nI_clamp (show 2 ^ h + j < 2 ^ 31 by omega), mw_eq, wL_n (by omega), e3 j (by omega) hj, ten_sub z, nI_l (show fN t st h k < 2 ^ 31 by omega), nI_l (show 10 - fN t st h k < 2 ^ 31 by omega), lN10 _ z, ← hF', mw_eq, mw_eq, nI_succ])
      (fun s ⟨e1, _, _, _, _⟩ κ k' => by
        unfold f_X9_oddsBy_27
        rw [n_shl h (by omega), e1, if_pos (nI_le (by omega) (by omega)), mw_eq, nI_succ])
    refine ⟨s.2, fun r hr => ?_, r4, r5, r6⟩
    by_cases y : r < 2 ^ h
    · exact (r2 r y).1
    · have := (r2 (r - 2 ^ h) (by omega)).2
      rw [show 2 ^ h + (r - 2 ^ h) = r by omega] at this
      exact this
  unfold f_X9_oddsBy
  rw [mj_ck_t (by decide), mw_eq, show (0 : Int32).toNatClampNeg = 0 from rfl]
  obtain ⟨s, ⟨-, b2, b3, b4⟩, b5⟩ := lp_cnt (B := f_X9_oddsBy_9 N (nI k)) (E := fun s => some s.2) (c := t 13 1) (N := N) (s0 := (0, mj_wL m 121 0 1)) (fun i s => s.1 = nI i ∧ (∀ r, r < 2 ^ i → s.2.2 121 r = odN F i r) ∧ s.2.1 = m.1 ∧ (∀ A K, A ≠ 121 → s.2.2 A K = m.2 A K)) (by omega)
    ⟨rfl, fun r hr => by
      have : r = 0 := by omega
      subst this
      exact wL_e, rfl, fun A K hA => wL_n (by omega)⟩
    (fun i s hi ⟨e1, e2, e3, e4⟩ => by
      have gs : Rep (mg s.2) t u := RT_m hG g (fun a k _ => by rw [e3])
      have ss : StA s.2 108 t st := ⟨hs.1, fun j hj => by rw [e3]; exact hs.2 j hj⟩
      obtain ⟨m', r1, r2, r3, r4⟩ := inner i s.2 hi e2
      refine ⟨(nI (i + 1), m'), ⟨rfl, r1, r2.trans e3, fun A K hA => (r3 A K hA).trans (e4 A K hA)⟩, fun k' => ?_⟩
      unfold f_X9_oddsBy_9
      rw [y_houses gs, e1, if_neg (nI_ge hi (by omega)), falls9 hG gs ss hi hk, bind_some']
      exact r4 k')
    (fun s ⟨e1, _, e3, _⟩ k' => by
      have gs : Rep (mg s.2) t u := RT_m hG g (fun a k _ => by rw [e3])
      unfold f_X9_oddsBy_9
      rw [y_houses gs, e1, if_pos (nI_le (by omega) (by omega))])
  exact ⟨s.2, b5, b2, b3, b4⟩
theorem o11 (a b : Int64) : 1 * a + 1 * b = a + b := by grind
theorem worths9 {m : mj_m} {t : aT} {u : Nat → Int32} (hG : Good t) (g : Rep (mg m) t u) (v1 : Int32) {N : Nat} {pe : Nat → Nat} (hpe : ∀ h, h < t 13 1 → pe h ≤ 990) (hp : ∀ m' : mj_m, m'.1 = m.1 → ∀ h, h < t 13 1 → f_X9_people N (nI h) v1 m' = some (nI (pe h))) {v2 : Int32} {C : Int64} (hC : (v2 = 0 ∧ C = 0) ∨ (v2 = 1 ∧ C = lN (t 13 4))) (hN : 1100 ≤ N) : ∃ m', f_X9_worthsBy N v1 v2 m = some m' ∧ (∀ r, r < 2 ^ t 13 1 → m'.2 122 r = Wn (fun h => lN (pe h)) C (t 0) (cutP t) zW (t 13 1) r.testBit) ∧ m'.1 = m.1 ∧ (∀ A K, A ≠ 122 → m'.2 A K = m.2 A K) := by
  have gh := GH hG
  have sh4 := hG.1.2.2.2.2.1
  have p10 : 2 ^ t 13 1 ≤ 1024 := (Nat.pow_le_pow_right (by decide) gh : 2 ^ t 13 1 ≤ 2 ^ 10)
  have inner : ∀ (r : Nat) (m1 : mj_m) (v4 : Int32), r < 2 ^ t 13 1 → m1.1 = m.1 → ((v4 = 0 ∧ C = 0) ∨ (v4 = nI (cutN t (shuN t r (t 13 1))) ∧ C = lN (t 13 4))) → ∀ κ : Int32 × mj_m → Option mj_m, f_X9_worthsBy_25 N κ v1 v2 (nI r) v4 m1 = κ (nI (r + 1), mj_wL m1 122 r (Wn (fun h => lN (pe h)) C (t 0) (cutP t) zW (t 13 1) r.testBit)) := by
    intro r m1 v4 hr h1 h4 κ
    have gs : Rep (mg m1) t u := RT_m hG g (fun a k _ => by rw [h1])
    unfold f_X9_worthsBy_25
    refine lp_for (fun i => (Wn (fun h => lN (pe h)) C (t 0) (cutP t) zW i r.testBit, nI i)) (c := t 13 1) (by omega) (fun i hi k => ?_) (fun k => ?_)
    · have cor := (hG.2.1 i hi).1
      have px := hpe i hi
      show _ = k (1 * Wn (fun h => lN (pe h)) C (t 0) (cutP t) zW i r.testBit + 1 * wv (fun h => lN (pe h)) C (t 0) (cutP t) i r.testBit, nI (i + 1))
      rw [o11]
      unfold wv f_X9_worthsBy_33 f_X9_worthsBy_107
      dsimp only
      rw [y_houses gs, if_neg (nI_ge hi (by omega)), hp m1 h1 i hi, bind_some', bind_some', y_shut gs, nI_l (show t 13 4 < 2 ^ 31 by omega), nI_l (show pe i < 2 ^ 31 by omega), mj_ck_t (bb_101 (by omega)), nI_clamp (show i < 2 ^ 31 by omega), y_corner gs hi]
      simp only [mw_eq]
      by_cases q : r.testBit i = true
      · rw [if_pos ((n_bit1 r (by omega)).mpr q), if_pos q, nI_succ]
      · rw [if_neg (fun z => q ((n_bit1 r (by omega)).mp z)), if_neg q, cutP_set]
        rcases h4 with ⟨h4, h5⟩ | ⟨h4, h5⟩
        · rw [h4, if_neg (fun z => by
            have := (n_bit1 0 (show t 0 i < 32 by omega)).mp z
            rw [Nat.zero_testBit] at this; cases this), h5]
          by_cases y : (cutN t (shuN t r (t 13 1))).testBit (t 0 i) = true
          · rw [if_pos y, nI_succ]
            exact congrArg (fun z => k (z, _)) ((by intro a b; grind : ∀ a b : Int64, a = a + 0 * b) _ _)
          · rw [if_neg y, nI_succ]
            exact congrArg (fun z => k (z, _)) ((by intro a; grind : ∀ a : Int64, a = a + 0) _)
        · rw [h4, h5]
          by_cases y : (cutN t (shuN t r (t 13 1))).testBit (t 0 i) = true
          · rw [if_pos ((n_bit1 _ (by omega)).mpr y), if_pos y, nI_succ]
          · rw [if_neg (fun z => y ((n_bit1 _ (by omega)).mp z)), if_neg y, nI_succ]
            exact congrArg (fun z => k (z, _)) ((by intro a; grind : ∀ a : Int64, a = a + 0) _)
    · unfold f_X9_worthsBy_33
      dsimp only
      rw [y_houses gs, if_pos (nI_le (by omega) (by omega)), mj_ck_t (bb_122 (by omega)), nI_clamp (by omega), mw_eq, mw_eq, nI_succ]
  unfold f_X9_worthsBy
  obtain ⟨s, ⟨-, b2, b3, b4⟩, b5⟩ := lp_cnt (B := f_X9_worthsBy_2 N v1 v2) (E := fun s => some s.2) (c := 2 ^ t 13 1) (N := N) (s0 := (0, m)) (fun i s => s.1 = nI i ∧ (∀ r, r < i → s.2.2 122 r = Wn (fun h => lN (pe h)) C (t 0) (cutP t) zW (t 13 1) r.testBit) ∧ s.2.1 = m.1 ∧ (∀ A K, A ≠ 122 → s.2.2 A K = m.2 A K)) (by omega)
    ⟨rfl, fun r hr => absurd hr (Nat.not_lt_zero r), rfl, fun _ _ _ => rfl⟩
    (fun i s hi ⟨e1, e2, e3, e4⟩ => by
      have gs : Rep (mg s.2) t u := RT_m hG g (fun a k _ => by rw [e3])
      refine ⟨(nI (i + 1), mj_wL s.2 122 i (Wn (fun h => lN (pe h)) C (t 0) (cutP t) zW (t 13 1) i.testBit)), ⟨rfl, fun r hr => ?_, e3, fun A K hA => by rw [wL_n (by omega)]; exact e4 A K hA⟩, fun k' => ?_⟩
      · by_cases y : r = i
        · rw [y, wL_e]
        · rw [wL_n (by omega)]; exact e2 r (by omega)
      · unfold f_X9_worthsBy_2
        rw [y_houses gs, n_shl _ (by omega), e1, if_neg (nI_ge hi (by omega))]
        rcases hC with ⟨hC1, hC2⟩ | ⟨hC1, hC2⟩
        · rw [if_pos hC1, inner i s.2 0 hi e3 (Or.inl ⟨rfl, hC2⟩)]
        · rw [if_neg (by rw [hC1]; decide), cut9 hG gs i (by omega), bind_some', inner i s.2 _ hi e3 (Or.inr ⟨rfl, hC2⟩)])
    (fun s ⟨e1, _, e3, _⟩ k' => by
      have gs : Rep (mg s.2) t u := RT_m hG g (fun a k _ => by rw [e3])
      unfold f_X9_worthsBy_2
      rw [y_houses gs, n_shl _ (by omega), e1, if_pos (nI_le (by omega) (by omega))])
  exact ⟨s.2, b5, b2, b3, b4⟩
theorem lost9 {m : mj_m} {t : aT} {u : Nat → Int32} (hG : Good t) (g : Rep (mg m) t u) {st : Nat → Nat} (hs : StA m 108 t st) {k : Nat} (hk : k < t 13 2) {P : Nat → Int64} {C : Int64} {base : W1} (hw : ∀ r, r < 2 ^ t 13 1 → m.2 122 r = Wn P C (t 0) (cutP t) base (t 13 1) r.testBit) {N : Nat} (hN : 1100 ≤ N) : ∃ m', f_X9_lostBy N (nI k) m = some (SVal t st k P C base, m') ∧ m'.1 = m.1 ∧ (∀ A K, A ≠ 121 → m'.2 A K = m.2 A K) := by
  have gh := GH hG
  have p10 : 2 ^ t 13 1 ≤ 1024 := (Nat.pow_le_pow_right (by decide) gh : 2 ^ t 13 1 ≤ 2 ^ 10)
  obtain ⟨m1, a1, a2, a3, a4⟩ := odds9 hG g hs hk hN
  refine ⟨m1, ?_, a3, a4⟩
  unfold f_X9_lostBy
  rw [a1, bind_some']
  have gs : Rep (mg m1) t u := RT_m hG g (fun a k _ => by rw [a3])
  have sum := sum_Ex (fun h => lN (fN t st h k)) (t 13 1) (fun r => m1.2 122 r) _ (fun r hr => (a4 122 r (by omega)).trans (hw r hr))
  unfold SVal
  rw [← sum]
  refine lp_for (fun i => (sumL (fun s => odN (fun h => lN (fN t st h k)) (t 13 1) s * m1.2 122 s) i, nI i)) (c := 2 ^ t 13 1) (by omega) (fun i hi k' => ?_) (fun k' => ?_)
  · unfold f_X9_lostBy_10
    dsimp only
    rw [y_houses gs, n_shl _ (by omega), if_neg (nI_ge hi (by omega)), mj_ck_t (bb_121 (by omega)), mj_ck_t (bb_122 (by omega)), nI_clamp (by omega), a2 i hi, mw_eq, mw_eq, nI_succ]
    rfl
  · unfold f_X9_lostBy_10
    dsimp only
    rw [y_houses gs, n_shl _ (by omega), if_pos (nI_le (by omega) (by omega))]
theorem mean9 {m : mj_m} {t : aT} {u : Nat → Int32} (hG : Good t) (g : Rep (mg m) t u) {st : Nat → Nat} (hs : StA m 108 t st) {P : Nat → Int64} {C : Int64} {base : W1} (hw : ∀ r, r < 2 ^ t 13 1 → m.2 122 r = Wn P C (t 0) (cutP t) base (t 13 1) r.testBit) {N : Nat} (hN : 1100 ≤ N) : ∃ m', f_X9_meanNow N m = some (MV t st P C base (t 13 2), m') ∧ m'.1 = m.1 ∧ (∀ A K, A ≠ 121 → m'.2 A K = m.2 A K) := by
  have gk := GK hG
  unfold f_X9_meanNow
  obtain ⟨s, ⟨-, b2, b3, b4⟩, b5⟩ := lp_cnt (B := f_X9_meanNow_4 N) (E := fun s => some (s.1, s.2.2)) (c := t 13 2) (N := N) (s0 := (0, 0, m)) (fun i s => s.2.1 = nI i ∧ s.1 = MV t st P C base i ∧ s.2.2.1 = m.1 ∧ (∀ A K, A ≠ 121 → s.2.2.2 A K = m.2 A K)) (by omega)
    ⟨rfl, rfl, rfl, fun _ _ _ => rfl⟩
    (fun i s hi ⟨e1, e2, e3, e4⟩ => by
      have gs : Rep (mg s.2.2) t u := RT_m hG g (fun a k _ => by rw [e3])
      have ss : StA s.2.2 108 t st := ⟨hs.1, fun j hj => by rw [e3]; exact hs.2 j hj⟩
      have ch := (hG.2.2.2 i hi).1
      by_cases q : t 11 i = 0
      · refine ⟨(s.1, nI (i + 1), s.2.2), ⟨rfl, e2.trans (if_pos q : MV t st P C base (i + 1) = _).symm, e3, e4⟩, fun k => ?_⟩
        unfold f_X9_meanNow_4 f_X9_meanNow_37
        rw [y_shakes gs, e1, if_neg (nI_ge hi (by omega)), mj_ck_t (bb_99 (by omega)), nI_clamp (by omega), y_chance gs hi, q, if_pos (by decide), mw_eq, nI_succ]
      · obtain ⟨m', r1, r2, r3⟩ := lost9 hG gs ss hi (P := P) (C := C) (base := base) (fun r hr => (e4 122 r (by omega)).trans (hw r hr)) hN
        refine ⟨(MV t st P C base (i + 1), nI (i + 1), m'), ⟨rfl, rfl, r2.trans e3, fun A K hA => (r3 A K hA).trans (e4 A K hA)⟩, fun k => ?_⟩
        have e : MV t st P C base (i + 1) = MV t st P C base i + lN (t 11 i) * SVal t st i P C base := if_neg q
        unfold f_X9_meanNow_4 f_X9_meanNow_37
        rw [y_shakes gs, e1, if_neg (nI_ge hi (by omega)), mj_ck_t (bb_99 (by omega)), nI_clamp (by omega), y_chance gs hi, if_neg (show ¬ nI (t 11 i) ≤ 0 from (nI_ge (show 0 < t 11 i by omega) (by omega) : ¬ nI (t 11 i) ≤ nI 0)), r1, bind_some', mw_eq, mw_eq, e2, nI_l (by omega), e, nI_succ])
    (fun s ⟨e1, _, e3, _⟩ k => by
      have gs : Rep (mg s.2.2) t u := RT_m hG g (fun a k _ => by rw [e3])
      unfold f_X9_meanNow_4
      rw [y_shakes gs, e1, if_pos (nI_le (by omega) (by omega))])
  exact ⟨s.2.2, by rw [b5, b2], b3, b4⟩
