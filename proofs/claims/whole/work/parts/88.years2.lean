/-! YEARS: the reference -/
def PW9 (m : mj_m) (t : aT) (L : List Nat) (s : yS) : Prop := m.1 95 46 = nI L.length ∧ m.1 95 47 = nI s.2.2.1 ∧ m.1 95 6 = s.1 ∧ Rw m 124 L ∧ ∀ i, i < t 13 1 → m.1 108 i = nI (s.2.1 i)
theorem sploopW {t : aT} {L : List Nat} (hG : Good t) (hL : ∀ x, x ∈ L → x < t 13 1) (hl : L.length ≤ 10) (N : Nat) : ∀ (d M : Nat) (s : yS) (m : mj_m), s.2.2.1 + d = L.length → d < M → (∀ i, i < t 13 1 → m.1 105 i = nI (t 4 i)) → PW9 m t L s → SpO t L s → ∃ m', mj_lp M (f_X9_builds_13 N) m = some m' ∧ PW9 m' t L (spn t L d s) ∧ Sq m m' := by
  have gh := GH hG
  intro d
  induction d with
  | zero =>
    intro M s m h1 h2 g p o
    obtain ⟨M, rfl⟩ : ∃ k, M = k + 1 := ⟨M - 1, by omega⟩
    refine ⟨m, ?_, p, Sq_r m⟩
    show f_X9_builds_13 N (mj_lp M _) m = _
    unfold f_X9_builds_13
    rw [p.1, p.2.1, if_pos (nI_le (by omega) (by omega))]
  | succ d ih =>
    intro M s m h1 h2 g p o
    obtain ⟨M, rfl⟩ : ∃ k, M = k + 1 := ⟨M - 1, by omega⟩
    have ha : s.2.2.1 < L.length := by omega
    have hx := hL _ (gd_mem ha)
    obtain ⟨o1, o2, o3⟩ := o
    have s2 := o2 _ hx
    obtain ⟨p1, p2, p3, p5, p6⟩ := p
    obtain ⟨c1, c2⟩ := (hG.2.1 _ hx).2.2.2.2.1
    have k108 : mj_b 0 108 (nI (gd L s.2.2.1)) = true := bb_108 (by omega)
    have k105 : mj_b 0 105 (nI (gd L s.2.2.1)) = true := bb_105 (by omega)
    have ck : (nI (gd L s.2.2.1)).toNatClampNeg = gd L s.2.2.1 := nI_clamp (by omega)
    by_cases q : s.2.1 (gd L s.2.2.1) = 2
    · obtain ⟨m', i1, i2, i3⟩ := ih M (s.1, s.2.1, s.2.2.1 + 1, s.2.2.2) (mj_wI m 95 47 (nI (s.2.2.1 + 1))) (by show s.2.2.1 + 1 + d = _; omega) (by omega) (fun i hi => by rw [wI_n (by omega)]; exact g i hi) ⟨by rw [wI_n (by omega)]; exact p1, wI_e, by rw [wI_n (by omega)]; exact p3, fun j hj => by rw [wI_n (by omega)]; exact p5 j hj, fun j hj => by rw [wI_n (by omega)]; exact p6 j hj⟩ (SpO_2 ⟨o1, o2, o3⟩ ha)
      refine ⟨m', ?_, by rw [spn_2 q]; exact i2, Sq_t (Sq_w (Sq_r m) (by omega)) i3⟩
      show f_X9_builds_13 N (mj_lp M (f_X9_builds_13 N)) m = _
      generalize mj_lp M (f_X9_builds_13 N) = K at i1
      unfold f_X9_builds_13 f_X9_builds_93
      rw [p1, p2, if_neg (nI_ge ha (by omega)), mj_ck_t (bb_124 (by omega)), nI_clamp (show s.2.2.1 < 2 ^ 31 by omega), p5 _ ha, mw_eq, mj_ck_t k108, ck, p6 _ hx, q, if_pos (by decide), mw_eq, ← nI_succ]
      exact i1
    · by_cases y : nI (t 4 (gd L s.2.2.1)) ≤ s.1
      · obtain ⟨m', i1, i2, i3⟩ := ih M (s.1 - nI (t 4 (gd L s.2.2.1)), inc s.2.1 (gd L s.2.2.1), s.2.2.1 + 1, s.2.2.2 + 1) (mj_wI (mj_wI (mj_wI (mj_wI m 95 6 (s.1 - nI (t 4 (gd L s.2.2.1)))) 108 (gd L s.2.2.1) (nI (s.2.1 (gd L s.2.2.1) + 1))) 95 48 (m.1 95 48 + 1)) 95 47 (nI (s.2.2.1 + 1))) (by show s.2.2.1 + 1 + d = _; omega) (by omega) (fun i hi => by rw [wI_n (by omega), wI_n (by omega), wI_n (by omega), wI_n (by omega)]; exact g i hi) ⟨by rw [wI_n (by omega), wI_n (by omega), wI_n (by omega), wI_n (by omega)]; exact p1, wI_e, by rw [wI_n (by omega), wI_n (by omega), wI_n (by omega), wI_e], fun j hj => by rw [wI_n (by omega), wI_n (by omega), wI_n (by omega), wI_n (by omega)]; exact p5 j hj, fun j hj => by
            rw [wI_n (by omega), wI_n (by omega)]
            show _ = nI (inc s.2.1 (gd L s.2.2.1) j)
            unfold inc
            by_cases z : j = gd L s.2.2.1
            · rw [if_pos z, z, wI_e]
            · rw [if_neg z, wI_n (by omega), wI_n (by omega)]; exact p6 j hj⟩ (SpO_y ⟨o1, o2, o3⟩ ha hx q)
        refine ⟨m', ?_, by rw [spn_y q y]; exact i2, Sq_t (Sq_w (Sq_w (Sq_w (Sq_w (Sq_r m) (by omega)) (by omega)) (by omega)) (by omega)) i3⟩
        show f_X9_builds_13 N (mj_lp M (f_X9_builds_13 N)) m = _
        generalize mj_lp M (f_X9_builds_13 N) = K at i1
        unfold f_X9_builds_13 f_X9_builds_93
        rw [p1, p2, if_neg (nI_ge ha (by omega)), mj_ck_t (bb_124 (by omega)), nI_clamp (show s.2.2.1 < 2 ^ 31 by omega), p5 _ ha, mw_eq, mj_ck_t k108, ck, p6 _ hx, if_neg (show ¬ 2 ≤ nI (s.2.1 (gd L s.2.2.1)) from (nI_ge (show s.2.1 (gd L s.2.2.1) < 2 by omega) (by omega) : ¬ nI 2 ≤ nI (s.2.1 (gd L s.2.2.1)))), mj_ck_t k105, g _ hx, p3, if_pos y, mw_eq, mw_eq, wI_n (by omega), p6 _ hx, ← nI_succ, mw_eq, wI_n (by omega), wI_n (by omega), mw_eq, wI_n (by omega), wI_n (by omega), wI_n (by omega), p2, ← nI_succ]
        exact i1
      · refine ⟨m, ?_, by rw [spn_n q y]; exact ⟨p1, p2, p3, p5, p6⟩, Sq_r m⟩
        show f_X9_builds_13 N (mj_lp M (f_X9_builds_13 N)) m = _
        unfold f_X9_builds_13
        rw [p1, p2, if_neg (nI_ge ha (by omega)), mj_ck_t (bb_124 (by omega)), nI_clamp (show s.2.2.1 < 2 ^ 31 by omega), p5 _ ha, mw_eq, mj_ck_t k108, ck, p6 _ hx, if_neg (show ¬ 2 ≤ nI (s.2.1 (gd L s.2.2.1)) from (nI_ge (show s.2.1 (gd L s.2.2.1) < 2 by omega) (by omega) : ¬ nI 2 ≤ nI (s.2.1 (gd L s.2.2.1)))), mj_ck_t k105, g _ hx, p3, if_neg y]
theorem buildsW {m : mj_m} {t : aT} {L : List Nat} (hG : Good t) (hL : ∀ x, x ∈ L → x < t 13 1) (hl : L.length ≤ 10) (g : ∀ i, i < t 13 1 → m.1 105 i = nI (t 4 i)) (gc : m.1 95 3 = nI (t 13 3)) {s : yS} (p : PW9 m t L s) (o : SpO t L s) {N : Nat} (hN : 20 ≤ N) : ∃ m', f_X9_builds N m = some m' ∧ PW9 m' t L (yr t L s) ∧ Sq m m' := by
  obtain ⟨p1, p2, p3, p5, p6⟩ := p
  have o1 := o.1
  obtain ⟨m', r1, r2, r3⟩ := sploopW hG hL hl N (L.length - s.2.2.1) N (s.1 + nI (t 13 3), s.2.1, s.2.2.1, s.2.2.2) (mj_wI m 95 6 (s.1 + nI (t 13 3))) (by show s.2.2.1 + (L.length - s.2.2.1) = _; omega) (by omega) (fun i hi => by rw [wI_n (by omega)]; exact g i hi) ⟨by rw [wI_n (by omega)]; exact p1, by rw [wI_n (by omega)]; exact p2, wI_e, fun j hj => by rw [wI_n (by omega)]; exact p5 j hj, fun j hj => by rw [wI_n (by omega)]; exact p6 j hj⟩ o
  refine ⟨m', ?_, r2, Sq_t (Sq_w (Sq_r m) (by omega)) r3⟩
  unfold f_X9_builds
  rw [p3, gc, mw_eq]
  exact r1

theorem Rep_mX {m m' : mj_m} {t t' : aT} {u : Nat → Int32} (hG : Good t) (g : Rep (mg m) t u) (e : ∀ a k, okM a k → ¬ (a = 95 ∧ 6 ≤ k) → a ≠ 103 → a ≠ 104 → a ≠ 108 → a ≠ 109 → m'.1 a k = m.1 a k) (ht : ∀ f, f ≠ 2 → f ≠ 3 → f ≠ 7 → f ≠ 8 → t' f = t f) (h2 : ∀ h, h < t 13 1 → m'.1 103 h = nI (t' 2 h) ∧ m'.1 104 h = nI (t' 3 h) ∧ m'.1 108 h = nI (t' 7 h) ∧ m'.1 109 h = nI (t' 8 h)) : Rep (mg m') t' (fun i => m'.1 95 (6 + i)) := by
  have gh := GH hG
  have gS := GS hG
  have gK := GK hG
  have same : ∀ f i, dm f i → f ≠ 2 → f ≠ 3 → f ≠ 7 → f ≠ 8 → f ≠ 14 → mg m' f i = mg m f i := by
    intro f i hd f2 f3 f7 f8 f14
    have r := mA_rng hd
    have d := dm_use hd
    have cs := mA_fm hd
    refine e _ _ (by unfold okM; omega) ?_ ?_ ?_ ?_ ?_ <;>
    rcases cs with ⟨q0, q⟩ | ⟨q0, q⟩ | ⟨q0, q⟩ | ⟨q0, q⟩ | ⟨q0, q⟩ | ⟨q0, q⟩ | ⟨q0, q⟩ <;> rw [q] <;> dsimp only <;> omega
  obtain ⟨g1, -, g3, g4, g5⟩ := g
  have t13 := ht 13 (by decide) (by decide) (by decide) (by decide)
  refine ⟨fun i hi => ?_, fun i hi => rfl, fun f hf i hi => ?_, fun f hf i hi => ?_, fun f hf i hi => ?_⟩
  · rw [t13]; exact (same 13 i ⟨by omega, by simpa using hi⟩ (by omega) (by omega) (by omega) (by omega) (by omega)).trans (g1 i hi)
  · rw [t13] at hi
    obtain ⟨a2, a3, a7, a8⟩ := h2 i hi
    by_cases q2 : f = 2
    · subst q2; show m'.1 103 i = nI (t' 2 i) - 0; rw [a2, Int32.sub_zero]
    by_cases q3 : f = 3
    · subst q3; show m'.1 104 i = nI (t' 3 i) - 0; rw [a3, Int32.sub_zero]
    by_cases q7 : f = 7
    · subst q7; show m'.1 108 i = nI (t' 7 i) - 0; rw [a7, Int32.sub_zero]
    by_cases q8 : f = 8
    · subst q8; show m'.1 109 i = nI (t' 8 i) - 0; rw [a8, Int32.sub_zero]
    rw [same f i ⟨by omega, by rw [if_pos hf]; omega⟩ q2 q3 q7 q8 (by omega), ht f q2 q3 q7 q8]; exact g3 f hf i hi
  · rw [t13] at hi
    rw [same f i ⟨by omega, by rw [if_neg (by omega), if_pos (by omega)]; omega⟩ (by omega) (by omega) (by omega) (by omega) (by omega), ht f (by omega) (by omega) (by omega) (by omega)]; exact g4 f hf i hi
  · rw [t13] at hi
    rw [same f i ⟨by omega, by rw [if_neg (by omega), if_neg (by omega), if_pos (by omega)]; omega⟩ (by omega) (by omega) (by omega) (by omega) (by omega), ht f (by omega) (by omega) (by omega) (by omega)]; exact g5 f hf i hi
theorem g_seed9 {m : mj_m} {t : aT} {u : Nat → Int32} (hG : Good t) (g : Rep (mg m) t u) (x : Int32) : Rep (mg (mj_wI m 95 9 x)) t (fun i => if i = 3 then x else u i) := Rep_mu (j := 3) hG g (by decide)
theorem strike9 {m : mj_m} {t : aT} {u : Nat → Int32} (hG : Good t) (g : Rep (mg m) t u) {k : Nat} (hk : k < t 13 2) (x T : Int32) {N : Nat} (hN : 20 ≤ N) (κ : Int32 × Int32 × mj_m → Option (Int32 × mj_m)) : f_X9_lives_63 N κ T (nI k) (if dyB t x = true then 0 else 1) (mj_wI m 95 9 (drS x)) = κ (T + (stM t k x).1, nI (k + 1), mj_wI m 95 9 (stM t k x).2) := by
  have gh := GH hG
  generalize hd : dyB t x = day
  have count : ∀ (set cut : Nat) (z : Int32), mj_lp N (f_X9_lives_125 N κ (nI k) (if day = true then 0 else 1) (nI set) (nI cut) (mj_wI m 95 9 z)) (T, 0, 0) = κ (T + ((dcM t day set cut (t 13 1)).1 + (dcM t day set cut (t 13 1)).2 * nI (t 13 4) / 10), nI (k + 1), mj_wI m 95 9 z) := by
    intro set cut z
    have gz := g_seed9 hG g z
    have key : mj_lp N (f_X9_lives_125 N κ (nI k) (if day = true then 0 else 1) (nI set) (nI cut) (mj_wI m 95 9 z)) (T + 0, 0, 0) = κ (T + ((dcM t day set cut (t 13 1)).1 + (dcM t day set cut (t 13 1)).2 * nI (t 13 4) / 10), nI (k + 1), mj_wI m 95 9 z) := by
      refine lp_for (fun h => (T + (dcM t day set cut h).1, (dcM t day set cut h).2, nI h)) (c := t 13 1) (by omega) (fun h hh κ' => ?_) (fun κ' => ?_)
      · have pp : f_X9_people N (nI h) (if day = true then 0 else 1) (mj_wI m 95 9 z) = some (hdP t day h) := by
          cases day
          · rw [show (if false = true then (0 : Int32) else 1) = 1 from rfl]; unfold f_X9_people; rw [if_neg (show ¬ (1 : Int32) = 0 by decide), if_pos rfl, mj_ck_t (bb_104 (by omega)), nI_clamp (by omega), y_night gz hh]; rfl
          · rw [show (if true = true then (0 : Int32) else 1) = 0 from rfl]; unfold f_X9_people; rw [if_pos rfl, mj_ck_t (bb_103 (by omega)), nI_clamp (by omega), y_day gz hh]; rfl
        have c8 := (hG.2.1 h hh).1
        unfold f_X9_lives_125 f_X9_lives_188
        dsimp only
        rw [y_houses gz, if_neg (nI_ge hh (by omega)), pp]
        by_cases q : set.testBit h = true
        · rw [if_pos ((n_bit1 set (by omega)).mpr q), bind_some', mw_eq, mw_eq, dcM_f q, Int32.add_assoc, nI_succ]
        · rw [if_neg (fun w => q ((n_bit1 set (by omega)).mp w)), mj_ck_t (bb_101 (by omega)), nI_clamp (by omega), y_corner gz hh]
          by_cases r : cut.testBit (t 0 h) = true
          · rw [if_pos ((n_bit1 cut (by omega)).mpr r), bind_some', mw_eq, mw_eq, dcM_c q r, nI_succ]
          · rw [if_neg (fun w => r ((n_bit1 cut (by omega)).mp w)), mw_eq, dcM_n q r, nI_succ]
      · unfold f_X9_lives_125 f_X9_lives_207
        dsimp only
        rw [y_houses gz, if_pos (nI_le (by omega) (by omega)), y_shut gz, mw_eq, mw_eq, Int32.add_assoc, nI_succ]
    rw [Int32.add_zero] at key
    exact key
  unfold f_X9_lives_63
  refine lp_for (fun h => (nI (flM t k (drS x) h).1, nI h, mj_wI m 95 9 (flM t k (drS x) h).2)) (c := t 13 1) (by omega) (fun h hh κ' => ?_) (fun κ' => ?_)
  · have gz := g_seed9 hG g (flM t k (drS x) h).2
    have gy := g_seed9 hG g (drS (flM t k (drS x) h).2)
    unfold f_X9_lives_74 f_X9_lives_108
    dsimp only
    rw [y_houses gz, if_neg (nI_ge hh (by omega)), draw9 N (by decide), bind_some']
    dsimp only
    rw [falls9 hG gy (St9 hG gy) hh hk, bind_some']
    simp only [mw_eq, nI_succ]
    show _ = κ' (nI (if nI (fN t (t 7) h k) ≤ drV 10 (drS (flM t k (drS x) h).2) then (flM t k (drS x) h).1 else (flM t k (drS x) h).1 ||| 2 ^ h), nI h + 1, mj_wI m 95 9 (drS (flM t k (drS x) h).2))
    by_cases q : nI (fN t (t 7) h k) ≤ drV 10 (drS (flM t k (drS x) h).2)
    · rw [if_pos q, if_pos q]
    · rw [if_neg q, if_neg q, n_shl h (by omega), n_or]
  · have gz := g_seed9 hG g (flM t k (drS x) (t 13 1)).2
    unfold f_X9_lives_74
    dsimp only
    rw [y_houses gz, if_pos (nI_le (by omega) (by omega)), cut9 hG gz _ hN, bind_some', count]
    unfold stM
    rw [hd]
theorem end9 {m : mj_m} {t : aT} {u : Nat → Int32} (hG : Good t) (g : Rep (mg m) t u) (v2 : Int32) {N : Nat} (hN : 20 ≤ N) : ∃ m', mj_lp N (f_X9_lives_215 N v2) (0, m) = some (v2, m') ∧ Rep (mg m') (eY t) (fun i => if i = 1 then u 1 + 1 else if i = 2 then u 2 + v2 else u i) ∧ (∀ a k, ¬ okM a k → m'.1 a k = m.1 a k) ∧ m'.2 = m.2 := by
  have gh := GH hG
  obtain ⟨s, ⟨-, e2, e3, e4⟩, e5⟩ := lp_cnt (B := f_X9_lives_215 N v2) (E := fun s => some (v2, mj_wI (mj_wI s.2 95 8 ((s.2.1 95 8) + v2)) 95 7 (((mj_wI s.2 95 8 ((s.2.1 95 8) + v2)).1 95 7) + 1))) (c := t 13 1) (N := N) (s0 := ((0 : Int32), m)) (fun i s => s.1 = nI i ∧ (∀ h, h < t 13 1 → s.2.1 103 h = nI (if h < i then eY t 2 h else t 2 h) ∧ s.2.1 104 h = nI (if h < i then eY t 3 h else t 3 h) ∧ s.2.1 109 h = nI (if h < i then 0 else t 8 h)) ∧ (∀ a k, a ≠ 103 → a ≠ 104 → a ≠ 109 → s.2.1 a k = m.1 a k) ∧ s.2.2 = m.2) (by omega)
    ⟨rfl, fun h hh => by rw [if_neg (by omega), if_neg (by omega), if_neg (by omega)]; exact ⟨y_day g hh, y_night g hh, y_prop g hh⟩, fun _ _ _ _ _ => rfl, rfl⟩
    (fun i s hi ⟨e1, e2, e3, e4⟩ => by
      obtain ⟨a2, a3, a8⟩ := e2 i hi
      rw [if_neg (by omega)] at a2 a3 a8
      have vh : s.2.1 95 1 = nI (t 13 1) := (e3 95 1 (by omega) (by omega) (by omega)).trans (y_houses g)
      have vs : s.2.1 108 i = nI (t 7 i) := (e3 108 i (by omega) (by omega) (by omega)).trans (y_steps g hi)
      obtain ⟨-, -, b2, b3, -, -, -, b7, -⟩ := hG.2.1 i hi
      refine ⟨(nI (i + 1), mj_wI (mj_wI (mj_wI s.2 109 i 0) 103 i (nI (eY t 2 i))) 104 i (nI (eY t 3 i))), ⟨rfl, fun h hh => ?_, fun a k q1 q2 q3 => by rw [wI_n (by omega), wI_n (by omega), wI_n (by omega)]; exact e3 a k q1 q2 q3, e4⟩, fun κ => ?_⟩
      · by_cases y : h = i
        · rw [y, if_pos (by omega), if_pos (by omega), if_pos (by omega)]
          exact ⟨by rw [wI_n (by omega), wI_e], by rw [wI_e], by rw [wI_n (by omega), wI_n (by omega), wI_e]; rfl⟩
        · obtain ⟨c2, c3, c8⟩ := e2 h hh
          rw [wI_n (by omega), wI_n (by omega), wI_n (by omega), wI_n (by omega), wI_n (by omega), wI_n (by omega), wI_n (by omega), wI_n (by omega), wI_n (by omega), c2, c3, c8]
          by_cases y2 : h < i
          · rw [if_pos y2, if_pos y2, if_pos y2, if_pos (by omega), if_pos (by omega), if_pos (by omega)]; exact ⟨rfl, rfl, rfl⟩
          · rw [if_neg y2, if_neg y2, if_neg y2, if_neg (by omega), if_neg (by omega), if_neg (by omega)]; exact ⟨rfl, rfl, rfl⟩
      · have m313 : ∀ v, v = nI (eY t 3 i) → f_X9_lives_313 N κ v2 (nI i) (nI i) v (mj_wI (mj_wI s.2 109 i 0) 103 i (nI (eY t 2 i))) = κ (nI (i + 1), mj_wI (mj_wI (mj_wI s.2 109 i 0) 103 i (nI (eY t 2 i))) 104 i (nI (eY t 3 i))) := fun v hv => by
          unfold f_X9_lives_313
          rw [mj_ck_t (bb_104 (by omega)), nI_clamp (by omega), mw_eq, mw_eq, hv, nI_succ]
        have m271 : ∀ v, v = nI (eY t 2 i) → f_X9_lives_271 N κ v2 (nI i) (nI i) v (mj_wI s.2 109 i 0) = κ (nI (i + 1), mj_wI (mj_wI (mj_wI s.2 109 i 0) 103 i (nI (eY t 2 i))) 104 i (nI (eY t 3 i))) := fun v hv => by
          unfold f_X9_lives_271
          rw [mj_ck_t (bb_103 (by omega)), nI_clamp (by omega), mw_eq, mj_ck_t (bb_104 (by omega)), mj_ck_t (bb_108 (by omega)), wI_n (by omega), wI_n (by omega), wI_n (by omega), wI_n (by omega), a3, vs, hv]
          have mm := (min99 b3 b7).2
          by_cases q : nI (t 3 i) + nI (t 7 i) ≤ 99
          · rw [if_pos q] at mm
            rw [if_pos q]; exact m313 _ mm
          · rw [if_neg q] at mm
            rw [if_neg q]; exact m313 _ mm
        unfold f_X9_lives_215
        rw [e1, vh, if_neg (nI_ge hi (by omega)), mj_ck_t (bb_109 (by omega)), nI_clamp (by omega), mw_eq, mj_ck_t (bb_103 (by omega)), mj_ck_t (bb_108 (by omega)), wI_n (by omega), wI_n (by omega), a2, vs]
        have mm := (min99 b2 b7).2
        by_cases q : nI (t 2 i) + nI (t 7 i) ≤ 99
        · rw [if_pos q] at mm
          rw [if_pos q]; exact m271 _ mm
        · rw [if_neg q] at mm
          rw [if_neg q]; exact m271 _ mm)
    (fun s ⟨e1, _, e3, _⟩ κ => by
      have vh : s.2.1 95 1 = nI (t 13 1) := (e3 95 1 (by omega) (by omega) (by omega)).trans (y_houses g)
      unfold f_X9_lives_215
      rw [e1, vh, if_pos (nI_le (by omega) (by omega)), mw_eq, mw_eq])
  refine ⟨_, e5, ?_, fun a k q => ?_, e4⟩
  · have r := Rep_mX (m' := mj_wI (mj_wI s.2 95 8 ((s.2.1 95 8) + v2)) 95 7 (((mj_wI s.2 95 8 ((s.2.1 95 8) + v2)).1 95 7) + 1)) (t' := eY t) hG g (fun a k q1 q2 q3 q4 q5 q6 => by
      rw [wI_n (by omega), wI_n (by omega)]; exact e3 a k q3 q4 q6) (fun f f2 f3 _ f8 => eY_o t f2 f3 f8) (fun h hh => by
      obtain ⟨c2, c3, c8⟩ := e2 h hh
      rw [if_pos hh] at c2 c3 c8
      refine ⟨?_, ?_, ?_, ?_⟩
      · rw [wI_n (by omega), wI_n (by omega)]; exact c2
      · rw [wI_n (by omega), wI_n (by omega)]; exact c3
      · rw [wI_n (by omega), wI_n (by omega), e3 108 h (by omega) (by omega) (by omega), eY_o t (f := 7) (by decide) (by decide) (by decide)]; exact y_steps g hh
      · rw [wI_n (by omega), wI_n (by omega)]; exact c8)
    obtain ⟨r1, r2, r3⟩ := r
    refine ⟨r1, fun i hi => ?_, r3⟩
    rw [r2 i hi]
    dsimp only
    rcases (by omega : i = 0 ∨ i = 1 ∨ i = 2 ∨ i = 3) with rfl | rfl | rfl | rfl
    · rw [if_neg (by decide), if_neg (by decide), wI_n (by omega), wI_n (by omega), e3 95 (6 + 0) (by omega) (by omega) (by omega)]; exact y_purse g
    · rw [if_pos rfl, wI_e, wI_n (by omega), e3 95 7 (by omega) (by omega) (by omega), y_year g]
    · rw [if_neg (by decide), if_pos rfl, wI_n (by omega), wI_e, e3 95 8 (by omega) (by omega) (by omega), y_gone g]
    · rw [if_neg (by decide), if_neg (by decide), wI_n (by omega), wI_n (by omega), e3 95 (6 + 3) (by omega) (by omega) (by omega)]; exact y_seed g
  · unfold okM at q
    rw [wI_n (by omega), wI_n (by omega)]; exact e3 a k (by omega) (by omega) (by omega)
