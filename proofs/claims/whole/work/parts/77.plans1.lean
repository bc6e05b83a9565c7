/-! PLANS: a year's steps by a row, on both sides -/
abbrev yS : Type := Int32 × (Nat → Nat) × Nat × Nat
def spn (t : aT) (L : List Nat) : Nat → yS → yS
  | 0, s => s
  | d + 1, s => if s.2.1 (gd L s.2.2.1) = 2 then spn t L d (s.1, s.2.1, s.2.2.1 + 1, s.2.2.2) else if nI (t 4 (gd L s.2.2.1)) ≤ s.1 then spn t L d (s.1 - nI (t 4 (gd L s.2.2.1)), inc s.2.1 (gd L s.2.2.1), s.2.2.1 + 1, s.2.2.2 + 1) else s
def SpO (t : aT) (L : List Nat) (s : yS) : Prop := s.2.2.1 ≤ L.length ∧ (∀ i, i < t 13 1 → s.2.1 i ≤ 2) ∧ s.2.2.2 ≤ s.2.2.1
theorem spn_2 {t : aT} {L : List Nat} {d : Nat} {s : yS} (h : s.2.1 (gd L s.2.2.1) = 2) : spn t L (d + 1) s = spn t L d (s.1, s.2.1, s.2.2.1 + 1, s.2.2.2) := if_pos h
theorem spn_y {t : aT} {L : List Nat} {d : Nat} {s : yS} (h : ¬ s.2.1 (gd L s.2.2.1) = 2) (h2 : nI (t 4 (gd L s.2.2.1)) ≤ s.1) : spn t L (d + 1) s = spn t L d (s.1 - nI (t 4 (gd L s.2.2.1)), inc s.2.1 (gd L s.2.2.1), s.2.2.1 + 1, s.2.2.2 + 1) := (if_neg h).trans (if_pos h2)
theorem spn_n {t : aT} {L : List Nat} {d : Nat} {s : yS} (h : ¬ s.2.1 (gd L s.2.2.1) = 2) (h2 : ¬ nI (t 4 (gd L s.2.2.1)) ≤ s.1) : spn t L (d + 1) s = s := (if_neg h).trans (if_neg h2)
theorem SpO_2 {t : aT} {L : List Nat} {s : yS} (o : SpO t L s) (ha : s.2.2.1 < L.length) : SpO t L (s.1, s.2.1, s.2.2.1 + 1, s.2.2.2) := by
  obtain ⟨o1, o2, o3⟩ := o
  exact ⟨ha, o2, Nat.le_succ_of_le o3⟩
theorem SpO_y {t : aT} {L : List Nat} {s : yS} {x : Int32} (o : SpO t L s) (ha : s.2.2.1 < L.length) (hx : gd L s.2.2.1 < t 13 1) (h : ¬ s.2.1 (gd L s.2.2.1) = 2) : SpO t L (x, inc s.2.1 (gd L s.2.2.1), s.2.2.1 + 1, s.2.2.2 + 1) := by
  obtain ⟨o1, o2, o3⟩ := o
  refine ⟨ha, fun i hi => ?_, Nat.succ_le_succ o3⟩
  have := o2 i hi
  show inc s.2.1 (gd L s.2.2.1) i ≤ 2
  unfold inc
  by_cases q : i = gd L s.2.2.1
  · rw [if_pos q, q]; have := o2 _ hx; omega
  · rw [if_neg q]; exact this
theorem spn_ok {t : aT} {L : List Nat} (hL : ∀ x, x ∈ L → x < t 13 1) : ∀ (d : Nat) (s : yS), s.2.2.1 + d ≤ L.length → SpO t L s → SpO t L (spn t L d s) ∧ s.2.2.2 ≤ (spn t L d s).2.2.2 ∧ ((spn t L d s).2.2.2 = s.2.2.2 → (spn t L d s).2.1 = s.2.1) := by
  intro d
  induction d with
  | zero => intro s _ o; exact ⟨o, Nat.le_refl _, fun _ => rfl⟩
  | succ d ih =>
    intro s hd o
    have hx := hL _ (gd_mem (L := L) (i := s.2.2.1) (by omega))
    by_cases q : s.2.1 (gd L s.2.2.1) = 2
    · rw [spn_2 q]
      exact ih _ (by show s.2.2.1 + 1 + d ≤ _; omega) (SpO_2 o (by omega))
    · by_cases y : nI (t 4 (gd L s.2.2.1)) ≤ s.1
      · rw [spn_y q y]
        obtain ⟨i1, i2, i3⟩ := ih (s.1 - nI (t 4 (gd L s.2.2.1)), inc s.2.1 (gd L s.2.2.1), s.2.2.1 + 1, s.2.2.2 + 1) (by show s.2.2.1 + 1 + d ≤ _; omega) (SpO_y o (by omega) hx q)
        have i2' : s.2.2.2 + 1 ≤ (spn t L d (s.1 - nI (t 4 (gd L s.2.2.1)), inc s.2.1 (gd L s.2.2.1), s.2.2.1 + 1, s.2.2.2 + 1)).2.2.2 := i2
        exact ⟨i1, by omega, fun z => by omega⟩
      · rw [spn_n q y]; exact ⟨o, Nat.le_refl _, fun _ => rfl⟩
def yr (t : aT) (L : List Nat) (s : yS) : yS := spn t L (L.length - s.2.2.1) (s.1 + nI (t 13 3), s.2.1, s.2.2.1, s.2.2.2)
theorem yr_ok {t : aT} {L : List Nat} (hL : ∀ x, x ∈ L → x < t 13 1) {s : yS} (o : SpO t L s) : SpO t L (yr t L s) ∧ s.2.2.2 ≤ (yr t L s).2.2.2 ∧ ((yr t L s).2.2.2 = s.2.2.2 → (yr t L s).2.1 = s.2.1) := by
  have h1 := o.1
  exact spn_ok hL _ (s.1 + nI (t 13 3), s.2.1, s.2.2.1, s.2.2.2) (by show s.2.2.1 + (L.length - s.2.2.1) ≤ _; omega) o
def PS8 (m : mj_m) (t : aT) (L : List Nat) (s : yS) : Prop := m.1 48 9 = nI L.length ∧ m.1 48 10 = nI s.2.2.1 ∧ m.1 48 11 = s.1 ∧ m.1 48 12 = nI s.2.2.2 ∧ Rw m 49 L ∧ ∀ i, i < t 13 1 → m.1 50 i = nI (s.2.1 i)
def Sp (m m' : mj_m) : Prop := (∀ a k, a ≠ 48 → a ≠ 50 → m'.1 a k = m.1 a k) ∧ m'.2 = m.2
theorem Sp_r (m : mj_m) : Sp m m := ⟨fun _ _ _ _ => rfl, rfl⟩
theorem Sp_t {m m' m'' : mj_m} (h : Sp m m') (h' : Sp m' m'') : Sp m m'' := ⟨fun a k q r => (h'.1 a k q r).trans (h.1 a k q r), h'.2.trans h.2⟩
theorem Sp_w {m m' : mj_m} {a k : Nat} {v : Int32} (h : Sp m m') (q : a = 48 ∨ a = 50) : Sp m (mj_wI m' a k v) := Sp_t h ⟨fun b j _ _ => wI_n (by omega), rfl⟩
theorem Sp_P {m m' : mj_m} (h : Sp m m') : Pd m m' := ⟨fun a k q => h.1 a k (by omega) (by omega), fun a k _ => by rw [h.2]⟩
theorem Sp_W {m m' : mj_m} {t : aT} (h : Sp m m') (w : WY m t) : WY m' t := WY_e w (fun a k _ _ _ => h.1 a k (by omega) (by omega)) (fun k => by rw [h.2])
theorem sploop8 {t : aT} {u : Nat → Int32} {L : List Nat} (hG : Good t) (hL : ∀ x, x ∈ L → x < t 13 1) (hl : L.length ≤ 10) (N : Nat) : ∀ (d M : Nat) (s : yS) (m : mj_m), s.2.2.1 + d = L.length → d < M → Rep (cg m 1 8) t u → PS8 m t L s → SpO t L s → ∃ m', mj_lp M (f_X4_spend_21 N) (nI s.2.2.1, m) = some m' ∧ PS8 m' t L (spn t L d s) ∧ Sp m m' := by
  have gh := GH hG
  intro d
  induction d with
  | zero =>
    intro M s m h1 h2 g p o
    obtain ⟨M, rfl⟩ : ∃ k, M = k + 1 := ⟨M - 1, by omega⟩
    refine ⟨m, ?_, p, Sp_r m⟩
    show f_X4_spend_21 N (mj_lp M _) (nI s.2.2.1, m) = _
    unfold f_X4_spend_21
    dsimp only
    rw [p.1, if_pos (nI_le (by omega) (by omega))]
  | succ d ih =>
    intro M s m h1 h2 g p o
    obtain ⟨M, rfl⟩ : ∃ k, M = k + 1 := ⟨M - 1, by omega⟩
    have ha : s.2.2.1 < L.length := by omega
    have hx := hL _ (gd_mem ha)
    obtain ⟨o1, o2, o3⟩ := o
    have s2 := o2 _ hx
    obtain ⟨p1, p2, p3, p4, p5, p6⟩ := p
    obtain ⟨c1, c2⟩ := (hG.2.1 _ hx).2.2.2.2.1
    have k50 : mj_b 0 50 (nI (gd L s.2.2.1)) = true := bb_50 (by omega)
    have k4 : mj_b 2 4 (nI (gd L s.2.2.1)) = true := bb_4 (by omega)
    have ck : (nI (gd L s.2.2.1)).toNatClampNeg = gd L s.2.2.1 := nI_clamp (by omega)
    by_cases q : s.2.1 (gd L s.2.2.1) = 2
    · obtain ⟨m', i1, i2, i3⟩ := ih M (s.1, s.2.1, s.2.2.1 + 1, s.2.2.2) (mj_wI m 48 10 (nI (s.2.2.1 + 1))) (by show s.2.2.1 + 1 + d = _; omega) (by omega) (Pd_c hG g (Pd_w (Pd_r m) (by omega))) ⟨by rw [wI_n (by omega)]; exact p1, wI_e, by rw [wI_n (by omega)]; exact p3, by rw [wI_n (by omega)]; exact p4, fun j hj => by rw [wI_n (by omega)]; exact p5 j hj, fun j hj => by rw [wI_n (by omega)]; exact p6 j hj⟩ (SpO_2 ⟨o1, o2, o3⟩ ha)
      refine ⟨m', ?_, by rw [spn_2 q]; exact i2, Sp_t (Sp_w (Sp_r m) (by omega)) i3⟩
      show f_X4_spend_21 N (mj_lp M (f_X4_spend_21 N)) (nI s.2.2.1, m) = _
      generalize mj_lp M (f_X4_spend_21 N) = K at i1
      unfold f_X4_spend_21 f_X4_spend_107
      dsimp only
      rw [p1, if_neg (nI_ge ha (by omega)), mj_ck_t (bb_49 (by omega)), nI_clamp (show s.2.2.1 < 2 ^ 31 by omega), p5 _ ha, mw_eq, mj_ck_t k50, ck, p6 _ hx, q, if_pos (by decide), mw_eq, mw_eq, ← nI_succ]
      exact i1
    · by_cases y : nI (t 4 (gd L s.2.2.1)) ≤ s.1
      · obtain ⟨m', i1, i2, i3⟩ := ih M (s.1 - nI (t 4 (gd L s.2.2.1)), inc s.2.1 (gd L s.2.2.1), s.2.2.1 + 1, s.2.2.2 + 1) (mj_wI (mj_wI (mj_wI (mj_wI m 48 11 (s.1 - nI (t 4 (gd L s.2.2.1)))) 50 (gd L s.2.2.1) (nI (s.2.1 (gd L s.2.2.1) + 1))) 48 12 (nI (s.2.2.2 + 1))) 48 10 (nI (s.2.2.1 + 1))) (by show s.2.2.1 + 1 + d = _; omega) (by omega) (Pd_c hG g (Pd_w (Pd_w (Pd_w (Pd_w (Pd_r m) (by omega)) (by omega)) (by omega)) (by omega))) ⟨by rw [wI_n (by omega), wI_n (by omega), wI_n (by omega), wI_n (by omega)]; exact p1, wI_e, by rw [wI_n (by omega), wI_n (by omega), wI_n (by omega), wI_e], by rw [wI_n (by omega), wI_e], fun j hj => by rw [wI_n (by omega), wI_n (by omega), wI_n (by omega), wI_n (by omega)]; exact p5 j hj, fun j hj => by
            rw [wI_n (by omega), wI_n (by omega)]
            show _ = nI (inc s.2.1 (gd L s.2.2.1) j)
            unfold inc
            by_cases z : j = gd L s.2.2.1
            · rw [if_pos z, z, wI_e]
            · rw [if_neg z, wI_n (by omega), wI_n (by omega)]; exact p6 j hj⟩ (SpO_y ⟨o1, o2, o3⟩ ha hx q)
        refine ⟨m', ?_, by rw [spn_y q y]; exact i2, Sp_t (Sp_w (Sp_w (Sp_w (Sp_w (Sp_r m) (by omega)) (by omega)) (by omega)) (by omega)) i3⟩
        show f_X4_spend_21 N (mj_lp M (f_X4_spend_21 N)) (nI s.2.2.1, m) = _
        generalize mj_lp M (f_X4_spend_21 N) = K at i1
        unfold f_X4_spend_21 f_X4_spend_107
        dsimp only
        rw [p1, if_neg (nI_ge ha (by omega)), mj_ck_t (bb_49 (by omega)), nI_clamp (show s.2.2.1 < 2 ^ 31 by omega), p5 _ ha, mw_eq, mj_ck_t k50, ck, p6 _ hx, if_neg (show ¬ 2 ≤ nI (s.2.1 (gd L s.2.2.1)) from (nI_ge (show s.2.1 (gd L s.2.2.1) < 2 by omega) (by omega) : ¬ nI 2 ≤ nI (s.2.1 (gd L s.2.2.1)))), mj_ck_t k4, x_cost g hx, p3, if_pos y, mw_eq, mw_eq, wI_n (by omega), p6 _ hx, ← nI_succ, mw_eq, wI_n (by omega), wI_n (by omega), p4, ← nI_succ, mw_eq, mw_eq, ← nI_succ]
        exact i1
      · refine ⟨m, ?_, by rw [spn_n q y]; exact ⟨p1, p2, p3, p4, p5, p6⟩, Sp_r m⟩
        show f_X4_spend_21 N (mj_lp M (f_X4_spend_21 N)) (nI s.2.2.1, m) = _
        unfold f_X4_spend_21
        dsimp only
        rw [p1, if_neg (nI_ge ha (by omega)), mj_ck_t (bb_49 (by omega)), nI_clamp (show s.2.2.1 < 2 ^ 31 by omega), p5 _ ha, mw_eq, mj_ck_t k50, ck, p6 _ hx, if_neg (show ¬ 2 ≤ nI (s.2.1 (gd L s.2.2.1)) from (nI_ge (show s.2.1 (gd L s.2.2.1) < 2 by omega) (by omega) : ¬ nI 2 ≤ nI (s.2.1 (gd L s.2.2.1)))), mj_ck_t k4, x_cost g hx, p3, if_neg y]
theorem spend8 {m : mj_m} {t : aT} {u : Nat → Int32} {L : List Nat} (hG : Good t) (hL : ∀ x, x ∈ L → x < t 13 1) (hl : L.length ≤ 10) (g : Rep (cg m 1 8) t u) {s : yS} (p : PS8 m t L s) (o : SpO t L s) {N : Nat} (hN : 20 ≤ N) : ∃ m', f_X4_spend N m = some m' ∧ PS8 m' t L (yr t L s) ∧ Sp m m' := by
  obtain ⟨p1, p2, p3, p4, p5, p6⟩ := p
  have o1 := o.1
  obtain ⟨m', r1, r2, r3⟩ := sploop8 hG hL hl N (L.length - s.2.2.1) N (s.1 + nI (t 13 3), s.2.1, s.2.2.1, s.2.2.2) (mj_wI m 48 11 (s.1 + nI (t 13 3))) (by show s.2.2.1 + (L.length - s.2.2.1) = _; omega) (by omega) (Pd_c hG g (Pd_w (Pd_r m) (by omega))) ⟨by rw [wI_n (by omega)]; exact p1, by rw [wI_n (by omega)]; exact p2, wI_e, by rw [wI_n (by omega)]; exact p4, fun j hj => by rw [wI_n (by omega)]; exact p5 j hj, fun j hj => by rw [wI_n (by omega)]; exact p6 j hj⟩ o
  refine ⟨m', ?_, r2, Sp_t (Sp_w (Sp_r m) (by omega)) r3⟩
  unfold f_X4_spend
  rw [p3, x_coin g, mw_eq, mw_eq, wI_n (by omega), p2]
  exact r1
def PS9 (m : mj_m) (t : aT) (L : List Nat) (s : yS) : Prop := m.1 95 46 = nI L.length ∧ m.1 95 47 = nI s.2.2.1 ∧ m.1 95 6 = s.1 ∧ m.1 95 48 = nI s.2.2.2 ∧ Rw m 124 L ∧ ∀ i, i < t 13 1 → m.1 108 i = nI (s.2.1 i)
def Sq (m m' : mj_m) : Prop := (∀ a k, ¬ (a = 95 ∧ (k = 6 ∨ k = 47 ∨ k = 48)) → ¬ (a = 108 ∧ k < 10) → m'.1 a k = m.1 a k) ∧ m'.2 = m.2
theorem Sq_r (m : mj_m) : Sq m m := ⟨fun _ _ _ _ => rfl, rfl⟩
theorem Sq_t {m m' m'' : mj_m} (h : Sq m m') (h' : Sq m' m'') : Sq m m'' := ⟨fun a k q r => (h'.1 a k q r).trans (h.1 a k q r), h'.2.trans h.2⟩
theorem Sq_w {m m' : mj_m} {a k : Nat} {v : Int32} (h : Sq m m') (q : (a = 95 ∧ (k = 6 ∨ k = 47 ∨ k = 48)) ∨ (a = 108 ∧ k < 10)) : Sq m (mj_wI m' a k v) := Sq_t h ⟨fun b j _ _ => wI_n (by omega), rfl⟩
theorem sploop9 {t : aT} {L : List Nat} (hG : Good t) (hL : ∀ x, x ∈ L → x < t 13 1) (hl : L.length ≤ 10) (N : Nat) : ∀ (d M : Nat) (s : yS) (m : mj_m), s.2.2.1 + d = L.length → d < M → (∀ i, i < t 13 1 → m.1 105 i = nI (t 4 i)) → PS9 m t L s → SpO t L s → ∃ m', mj_lp M (f_X9_builds_13 N) m = some m' ∧ PS9 m' t L (spn t L d s) ∧ Sq m m' := by
  have gh := GH hG
  intro d
  induction d with
  | zero =>
    intro M s m h1 h2 g p o
    obtain ⟨M, rfl⟩ : ∃ k, M = k + 1 := ⟨M - 1, by omega⟩
    refine ⟨m, ?_, p, Sq_r m⟩
    show f_X9_builds_13 N (mj_lp M _) m = _
    unfold f_X9_builds_13
    rw [p.1, p.2.1, if_pos (nI_le (by omega) (by omega))]
  | succ d ih =>
    intro M s m h1 h2 g p o
    obtain ⟨M, rfl⟩ : ∃ k, M = k + 1 := ⟨M - 1, by omega⟩
    have ha : s.2.2.1 < L.length := by omega
    have hx := hL _ (gd_mem ha)
    obtain ⟨o1, o2, o3⟩ := o
    have s2 := o2 _ hx
    obtain ⟨p1, p2, p3, p4, p5, p6⟩ := p
    obtain ⟨c1, c2⟩ := (hG.2.1 _ hx).2.2.2.2.1
    have k108 : mj_b 0 108 (nI (gd L s.2.2.1)) = true := bb_108 (by omega)
    have k105 : mj_b 0 105 (nI (gd L s.2.2.1)) = true := bb_105 (by omega)
    have ck : (nI (gd L s.2.2.1)).toNatClampNeg = gd L s.2.2.1 := nI_clamp (by omega)
    by_cases q : s.2.1 (gd L s.2.2.1) = 2
    · obtain ⟨m', i1, i2, i3⟩ := ih M (s.1, s.2.1, s.2.2.1 + 1, s.2.2.2) (mj_wI m 95 47 (nI (s.2.2.1 + 1))) (by show s.2.2.1 + 1 + d = _; omega) (by omega) (fun i hi => by rw [wI_n (by omega)]; exact g i hi) ⟨by rw [wI_n (by omega)]; exact p1, wI_e, by rw [wI_n (by omega)]; exact p3, by rw [wI_n (by omega)]; exact p4, fun j hj => by rw [wI_n (by omega)]; exact p5 j hj, fun j hj => by rw [wI_n (by omega)]; exact p6 j hj⟩ (SpO_2 ⟨o1, o2, o3⟩ ha)
      refine ⟨m', ?_, by rw [spn_2 q]; exact i2, Sq_t (Sq_w (Sq_r m) (by omega)) i3⟩
      show f_X9_builds_13 N (mj_lp M (f_X9_builds_13 N)) m = _
      generalize mj_lp M (f_X9_builds_13 N) = K at i1
      unfold f_X9_builds_13 f_X9_builds_93
      rw [p1, p2, if_neg (nI_ge ha (by omega)), mj_ck_t (bb_124 (by omega)), nI_clamp (show s.2.2.1 < 2 ^ 31 by omega), p5 _ ha, mw_eq, mj_ck_t k108, ck, p6 _ hx, q, if_pos (by decide), mw_eq, ← nI_succ]
      exact i1
    · by_cases y : nI (t 4 (gd L s.2.2.1)) ≤ s.1
      · obtain ⟨m', i1, i2, i3⟩ := ih M (s.1 - nI (t 4 (gd L s.2.2.1)), inc s.2.1 (gd L s.2.2.1), s.2.2.1 + 1, s.2.2.2 + 1) (mj_wI (mj_wI (mj_wI (mj_wI m 95 6 (s.1 - nI (t 4 (gd L s.2.2.1)))) 108 (gd L s.2.2.1) (nI (s.2.1 (gd L s.2.2.1) + 1))) 95 48 (nI (s.2.2.2 + 1))) 95 47 (nI (s.2.2.1 + 1))) (by show s.2.2.1 + 1 + d = _; omega) (by omega) (fun i hi => by rw [wI_n (by omega), wI_n (by omega), wI_n (by omega), wI_n (by omega)]; exact g i hi) ⟨by rw [wI_n (by omega), wI_n (by omega), wI_n (by omega), wI_n (by omega)]; exact p1, wI_e, by rw [wI_n (by omega), wI_n (by omega), wI_n (by omega), wI_e], by rw [wI_n (by omega), wI_e], fun j hj => by rw [wI_n (by omega), wI_n (by omega), wI_n (by omega), wI_n (by omega)]; exact p5 j hj, fun j hj => by
            rw [wI_n (by omega), wI_n (by omega)]
            show _ = nI (inc s.2.1 (gd L s.2.2.1) j)
            unfold inc
            by_cases z : j = gd L s.2.2.1
            · rw [if_pos z, z, wI_e]
            · rw [if_neg z, wI_n (by omega), wI_n (by omega)]; exact p6 j hj⟩ (SpO_y ⟨o1, o2, o3⟩ ha hx q)
        refine ⟨m', ?_, by rw [spn_y q y]; exact i2, Sq_t (Sq_w (Sq_w (Sq_w (Sq_w (Sq_r m) (by omega)) (by omega)) (by omega)) (by omega)) i3⟩
        show f_X9_builds_13 N (mj_lp M (f_X9_builds_13 N)) m = _
        generalize mj_lp M (f_X9_builds_13 N) = K at i1
        unfold f_X9_builds_13 f_X9_builds_93
        rw [p1, p2, if_neg (nI_ge ha (by omega)), mj_ck_t (bb_124 (by omega)), nI_clamp (show s.2.2.1 < 2 ^ 31 by omega), p5 _ ha, mw_eq, mj_ck_t k108, ck, p6 _ hx, if_neg (show ¬ 2 ≤ nI (s.2.1 (gd L s.2.2.1)) from (nI_ge (show s.2.1 (gd L s.2.2.1) < 2 by omega) (by omega) : ¬ nI 2 ≤ nI (s.2.1 (gd L s.2.2.1)))), mj_ck_t k105, g _ hx, p3, if_pos y, mw_eq, mw_eq, wI_n (by omega), p6 _ hx, ← nI_succ, mw_eq, wI_n (by omega), wI_n (by omega), p4, ← nI_succ, mw_eq, wI_n (by omega), wI_n (by omega), wI_n (by omega), p2, ← nI_succ]
        exact i1
      · refine ⟨m, ?_, by rw [spn_n q y]; exact ⟨p1, p2, p3, p4, p5, p6⟩, Sq_r m⟩
        show f_X9_builds_13 N (mj_lp M (f_X9_builds_13 N)) m = _
        unfold f_X9_builds_13
        rw [p1, p2, if_neg (nI_ge ha (by omega)), mj_ck_t (bb_124 (by omega)), nI_clamp (show s.2.2.1 < 2 ^ 31 by omega), p5 _ ha, mw_eq, mj_ck_t k108, ck, p6 _ hx, if_neg (show ¬ 2 ≤ nI (s.2.1 (gd L s.2.2.1)) from (nI_ge (show s.2.1 (gd L s.2.2.1) < 2 by omega) (by omega) : ¬ nI 2 ≤ nI (s.2.1 (gd L s.2.2.1)))), mj_ck_t k105, g _ hx, p3, if_neg y]
theorem builds9 {m : mj_m} {t : aT} {L : List Nat} (hG : Good t) (hL : ∀ x, x ∈ L → x < t 13 1) (hl : L.length ≤ 10) (g : ∀ i, i < t 13 1 → m.1 105 i = nI (t 4 i)) (gc : m.1 95 3 = nI (t 13 3)) {s : yS} (p : PS9 m t L s) (o : SpO t L s) {N : Nat} (hN : 20 ≤ N) : ∃ m', f_X9_builds N m = some m' ∧ PS9 m' t L (yr t L s) ∧ Sq m m' := by
  obtain ⟨p1, p2, p3, p4, p5, p6⟩ := p
  have o1 := o.1
  obtain ⟨m', r1, r2, r3⟩ := sploop9 hG hL hl N (L.length - s.2.2.1) N (s.1 + nI (t 13 3), s.2.1, s.2.2.1, s.2.2.2) (mj_wI m 95 6 (s.1 + nI (t 13 3))) (by show s.2.2.1 + (L.length - s.2.2.1) = _; omega) (by omega) (fun i hi => by rw [wI_n (by omega)]; exact g i hi) ⟨by rw [wI_n (by omega)]; exact p1, by rw [wI_n (by omega)]; exact p2, wI_e, by rw [wI_n (by omega)]; exact p4, fun j hj => by rw [wI_n (by omega)]; exact p5 j hj, fun j hj => by rw [wI_n (by omega)]; exact p6 j hj⟩ o
  refine ⟨m', ?_, r2, Sq_t (Sq_w (Sq_r m) (by omega)) r3⟩
  unfold f_X9_builds
  rw [p3, gc, mw_eq]
  exact r1
