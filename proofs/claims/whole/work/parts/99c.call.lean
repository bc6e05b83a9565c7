/-! THE CALL town -/
def Ri (m m' : mj_m) : Prop := (∀ a k, ¬ (97 ≤ a ∧ a ≤ 109) → a ≠ 118 → ¬ (a = 95 ∧ (k ≤ 10 ∨ (33 ≤ k ∧ k ≤ 37))) → m'.1 a k = m.1 a k) ∧ m'.2 = m.2
def TW9 (N s n : Nat) (L : Nat → Int32) (t : aT) (u : Nat → Int32) (m : mj_m) : Prop :=
  (∃ q, twP L n (n + 1) t 0 1 = .inl q ∧ ∃ m', f_X9_town N (nI s) m = some (-6, rfm m' 6) ∧ m'.1 95 10 = nI q ∧ Rep (mg m') t u ∧ Ri m m') ∨
  ∃ r, twP L n (n + 1) t 0 1 = .inr r ∧ ∃ m', f_X9_town N (nI s) m = some (nI r.2, m') ∧ m'.1 95 10 = -1 ∧ Rep (mg m') r.1 u ∧ Ri m m'
theorem town9 {m : mj_m} {t : aT} {u : Nat → Int32} {s n : Nat} {L : Nat → Int32} (hG : Good t) (hL : LL L n) (hs : s < 8) (g : Rep (mg m) t u) (hz : m.1 112 s = nI n) (he : ∀ i, i < n → (m.2 115 (120 * s + i)).toInt32 = L i) (hw : ∀ i, i < 58 → m.1 117 i = wdl.getD i 0) {N : Nat} (hN : 200 ≤ N) (hq : f_X9_wants N (nI s) 1 m = some 0) :
    TW9 N s n L t u m := by
  have hn := hL.1
  obtain ⟨m1, a1, a2⟩ := all_save (A := 118) (by omega) m (N := N) (by omega)
  obtain ⟨m5, h5⟩ : ∃ x, x = mj_wI (mj_wI (mj_wI (mj_wI m1 95 33 (nI (120 * s))) 95 34 (nI 0)) 95 35 (nI n)) 95 10 (-1) := ⟨_, rfl⟩
  have v : ∀ a k, ¬ (a = 95 ∧ (k = 10 ∨ k = 33 ∨ k = 34 ∨ k = 35)) → a ≠ 118 → m5.1 a k = m.1 a k := fun a k q1 q2 => by
    rw [h5, wI_n (by omega), wI_n (by omega), wI_n (by omega), wI_n (by omega), a2.2.1 a k q2]
  have v2 : m5.2 = m.2 := by rw [h5]; exact a2.2.2
  have k118 : ∀ j, m5.1 118 j = m1.1 118 j := fun j => by
    rw [h5, wI_n (by omega), wI_n (by omega), wI_n (by omega), wI_n (by omega)]
  have c : C9 m5 s L n 0 := ⟨by rw [h5, wI_n (by omega), wI_n (by omega), wI_n (by omega), wI_e], by rw [h5, wI_n (by omega), wI_n (by omega), wI_e], by rw [h5, wI_n (by omega), wI_e], fun i hi => by rw [v2]; exact he i hi, fun i hi => by rw [v 117 i (by omega) (by omega)]; exact hw i hi⟩
  have g5 : Rep (mg m5) t u := Rep_same g hG (fun f i hd => by
    have := mA_rng hd
    exact v _ _ (by omega) (by omega))
  have run : f_X9_town N (nI s) m = (f_X9_item N m5).bind (fun r9 => mj_lp N (f_X9_town_62 N) (nI 1, r9.1, r9.2)) := by
    unfold f_X9_town
    rw [hq, bind_some', if_pos rfl, a1, bind_some', mw_eq, mw_eq, mj_ck_t (bb_112 hs), nI_clamp (by omega), mw_eq, mw_eq, wI_n (by omega), wI_n (by omega), a2.2.1 112 s (by omega), hz, show (120 : Int32) * nI s = nI (120 * s) from nI_mul 120 s, h5]
    rfl
  have m10 : m5.1 95 10 = -1 := by rw [h5, wI_e]
  rcases items9 hL hs (N := N) (by omega) (n + 1) t 0 1 N m5 (by omega) (by omega) (by omega) (by omega) hG c g5 with ⟨q, b1, x, m6, b2, b3, b4⟩ | ⟨r, b1, m6, b2, b3, b4⟩
  · obtain ⟨m7, c1, c2⟩ := all_load (A := 118) (by omega) m6 (N := N) (by omega)
    refine Or.inl ⟨q, b1, mj_wI m7 95 10 (nI q), ?_, wI_e, ?_, fun a k q1 q2 q3 => ?_, ?_⟩
    · rw [run, b2]
      unfold f_X9_town_133
      rw [if_pos rfl, c1, bind_some', mw_eq, Ld_n c2 (by omega) (by omega), b3, rf9_6]; rfl
    · exact Rep_same g hG (fun f i hd => by
        have r1 := mA_rng hd
        have r2 := kA_rng (a := 118) hd
        show (mj_wI m7 95 10 (nI q)).1 _ _ = _
        rw [wI_n (by omega)]
        refine (back_g c2 f i hd).trans (Eq.trans ?_ (kept_g a2 f i hd))
        show m6.1 (kA 118 f i).1 (kA 118 f i).2 = m1.1 (kA 118 f i).1 (kA 118 f i).2
        rw [b4.1 _ _ (by omega) (by omega), r2.1]
        exact k118 _)
    · rw [wI_n (by omega), Ld_n c2 q1 (by omega), b4.1 a k q1 (by omega)]
      exact v a k (by omega) q2
    · show m7.2 = _
      rw [c2.2.2, b4.2, v2]
  · refine Or.inr ⟨r, b1, m6, by rw [run, b2], ?_, b3, fun a k q1 q2 q3 => ?_, by rw [b4.2, v2]⟩
    · rw [b4.1 95 10 (by omega) (by omega), m10]
    · rw [b4.1 a k q1 (by omega)]
      exact v a k (by omega) q2
def okR (a k : Nat) : Prop := (75 ≤ a ∧ a ≤ 76) ∨ (79 ≤ a ∧ a < 95) ∨ (a = 95 ∧ k = 54) ∨ (110 ≤ a ∧ a ≤ 114) ∨ a = 117 ∨ a = 127
theorem Rel_R {m m' : mj_m} {t' : aT} {u' : Nat → Int32} (h : Rel m) (h1 : RT m' t' u') (h2 : RP m') (h3 : RF m') (h4 : RR m') (e : Eqs okR m m') (hb : RB m') : Rel m' := by
  obtain ⟨-, -, -, -, h5, ⟨n, hn, a1, a2, a3⟩, h7⟩ := h
  refine ⟨⟨t', u', h1⟩, h2, h3, h4, ?_, ⟨n, hn, ?_, ?_, ?_⟩, ?_, hb⟩
  · intro s hs
    exact ShR_same (h5 s hs) (fun a q1 q2 => e.1 a s (by unfold okR; omega)) (fun k => e.1 _ k (by unfold okR; omega)) (fun i hi => ⟨e.2 _ _ (by unfold okL; omega), e.2 _ _ (by unfold okL; omega)⟩)
  · rw [e.1 75 1 (by unfold okR; omega)]; exact a1
  · rw [e.1 95 54 (by unfold okR; omega)]; exact a2
  · intro i q1 q2
    rw [e.1 127 i (by unfold okR; omega), e.1 76 i (by unfold okR; omega)]; exact a3 i q1 q2
  · intro i hi
    rw [e.1 117 i (by unfold okR; omega)]; exact h7.1 i hi
theorem RP_s {m m' : mj_m} (h : RP m) (e1 : m'.1 95 55 = m.1 95 55) (e2 : m'.1 0 10 = m.1 0 10) (e3 : ∀ a k, (18 ≤ a ∧ a < 35) ∨ a = 119 → m'.1 a k = m.1 a k) : RP m' := by
  obtain ⟨h1, h2⟩ := h
  refine ⟨by rw [e1, e2]; exact h1, ?_⟩
  rw [e2]
  rcases h2 with h2 | ⟨h2, t, u, hG, g1, g2⟩
  · exact Or.inl h2
  · refine Or.inr ⟨h2, t, u, hG, Rep_same g1 hG (fun f i hd => ?_), Rep_same g2 hG (fun f i hd => ?_)⟩
    · have := cA_rng (b := 18) (d := 25) rfl hd
      exact e3 _ _ (by omega)
    · have := kA_rng (a := 119) hd
      exact e3 _ _ (by omega)
theorem ca_town {m : mj_m} (h : Rel m) {N : Nat} (hN : 200 ≤ N) (v : Int32) : Both (f_X8_town N v) (f_X9_town N v) m := by
  rcases lk_row (RS_of h) N v with ⟨r, r1, r2, a, b⟩ | ⟨s, o, n, hs, rfl, rw0, a, b⟩
  · obtain ⟨n1, n2⟩ := rn0 r1 (by omega)
    refine ⟨-(nI r), rfu m r, _, ?_, ?_, Rel_rf h r⟩
    · unfold f_X8_town; rw [a, bind_some', if_neg n1, rf8_g r1 (by omega)]; rfl
    · unfold f_X9_town; rw [b _ (rfu110 m r), bind_some', if_neg n2, rf9_g r1 (by omega)]; rfl
  obtain ⟨t, u, h1⟩ := h.1
  have hG := h1.1
  obtain ⟨ho, hn, q1, q2, q3, q4, q5, q6⟩ := rw0
  obtain ⟨m1, b1, b2, b3⟩ := beginR8 hG h1.2.1 (fun i hi => (RB_R h i hi).1) hs hn q5 hN
  obtain ⟨L, eL⟩ : ∃ x : Nat → Int32, x = fun i => if i < n then (m.2 (80 + 2 * s) i).toInt32 else -1 := ⟨_, rfl⟩
  rw [← eL] at b2
  have hL : LL L n := ⟨hn, fun i hi => by rw [eL]; exact if_neg (by omega)⟩
  have start : f_X5_read N (79 + 2 * s) m = mj_lp N (f_X5_read_7 N) (nI 1, m1) := by
    unfold f_X5_read
    rw [b1, bind_some']; rfl
  have ref : ∀ m2 : mj_m, (∀ a k, ¬ (a < 75 ∨ a = 77) → m2.1 a k = m.1 a k) → m2.2 = m.2 → TW9 N s n L t u m2 := fun m2 e1 e2 => town9 (m := m2) (t := t) (u := u) (s := s) (n := n) (L := L) hG hL hs
    (Rep_same h1.2.2 hG (fun f i hd => by
      have := mA_rng hd
      exact e1 _ _ (by omega))) (by rw [e1 _ _ (by omega)]; exact q3) (fun i hi => by rw [e2, eL, ← q6 i hi]; exact (if_pos hi).symm) (fun i hi => by rw [e1 _ _ (by omega)]; exact h.2.2.2.2.2.2.1 i hi) hN (b m2 (fun s hs => e1 _ _ (by omega)))
  have fin : ∀ (m2 m3 : mj_m), (∀ a k, (18 ≤ a ∧ a < 55) ∨ 75 ≤ a → m2.1 a k = m.1 a k) → m2.1 0 10 = m.1 0 10 → m2.2 = m.2 → Ri m2 m3 → ∀ t', Good t' → Rep (cg m2 1 8) t' u → Rep (mg m3) t' u → m3.1 95 10 = m2.1 0 11 → (∀ i, i < 10 → b01 (m2.1 (8 + i) 7)) → Rel m3 := by
    intro m2 m3 e1 e2 e3 e4 t' hT g1 g2 e5 e6
    refine Rel_R h ⟨hT, Rep_same g1 hT (fun f i hd => ?_), g2⟩ (RP_s h.2.1 ?_ ?_ (fun a k q => ?_)) ?_ (fun i hi => ?_) ⟨fun a k q => ?_, fun a k q => by rw [e4.2, e3]⟩ (fun i hi => ⟨?_, ?_⟩)
    · have := cA_rng (b := 1) (d := 8) rfl hd
      exact e4.1 _ _ (by omega) (by omega) (by omega)
    · rw [e4.1 _ _ (by omega) (by omega) (by omega), e1 _ _ (by omega)]
    · rw [e4.1 _ _ (by omega) (by omega) (by omega), e2]
    · rw [e4.1 _ _ (by omega) (by omega) (by omega), e1 _ _ (by omega)]
    · show m3.1 95 10 = m3.1 0 11
      rw [e4.1 0 11 (by omega) (by omega) (by omega), e5]
    · rw [e4.1 96 i (by omega) (by omega) (by omega), e4.1 77 i (by omega) (by omega) (by omega), e1 _ _ (by omega), e1 _ _ (by omega)]
      exact h.2.2.2.1 i hi
    · unfold okR at q
      rw [e4.1 _ _ (by omega) (by omega) (by omega), e1 _ _ (by omega)]
    · rw [e4.1 _ _ (by omega) (by omega) (by omega)]; exact e6 i hi
    · rw [e4.1 _ _ (by omega) (by omega) (by omega), e1 _ _ (by omega)]; exact (RB_R h i hi).2
  rcases items8 hL (N := N) (by omega) (n + 1) t 0 1 N m1 (by omega) (by omega) (by omega) (by omega) (by omega) hG b2 with ⟨q, c1, c0, m2, c2, c3, c4⟩ | ⟨r, c1, cG, c0, m2, c2, c3, c4, c5, c6⟩
  · have w : ∀ a k, (a < 55 ∨ 75 ≤ a) → m2.1 a k = m.1 a k := fun a k q => by rw [c4.1 a k q, b3.1 a k q]
    have w2 : m2.2 = m.2 := by rw [c4.2, b3.2]
    have X : f_X8_town N (nI s) m = some (-6, rfu (mj_wI m2 0 11 (nI q)) 6) := by
      unfold f_X8_town
      rw [a, bind_some', if_pos rfl, mj_ck_t (bb_35 hs), nI_clamp (by omega), start, c2, bind_some', mw_eq, if_pos rfl, c3, rf8_6]; rfl
    have Y : ∀ m3, f_X9_town N (nI s) (rfu (mj_wI m2 0 11 (nI q)) 6) = some (-6, rfm m3 6) → m3.1 95 10 = nI q → Rep (mg m3) t u → Ri (rfu (mj_wI m2 0 11 (nI q)) 6) m3 → Rel (rfm m3 6) := fun m3 d2 d3 d4 d5 => by
      -- the same memory with both counts as they were
      have base : Rel (mj_wI m3 77 6 (m.1 77 6)) := by
        refine fin (mj_wI m2 0 11 (nI q)) (mj_wI m3 77 6 (m.1 77 6)) (fun a k q => by rw [wI_n (by omega)]; exact w a k (by omega)) (by rw [wI_n (by omega)]; exact w _ _ (by omega)) w2 ⟨fun a k y1 y2 y3 => ?_, d5.2⟩ t hG (Rep_same h1.2.1 hG (fun f i hd => ?_)) (Rep_same d4 hG (fun f i hd => ?_)) ?_ (fun i hi => ?_)
        · by_cases z : a = 77 ∧ k = 6
          · rw [z.1, z.2, wI_e, wI_n (by omega), w _ _ (by omega)]
          · rw [wI_n (by omega), d5.1 a k y1 y2 y3]
            unfold rfu
            rw [wI_n (by omega)]
        · have := cA_rng (b := 1) (d := 8) rfl hd
          show (mj_wI m2 0 11 (nI q)).1 _ _ = _
          rw [wI_n (by omega)]
          exact w _ _ (by omega)
        · have := mA_rng hd
          exact wI_n (by omega)
        · rw [wI_n (by omega), wI_e]; exact d3
        · rw [wI_n (by omega), w _ _ (by omega)]; exact (RB_R h i hi).1
      have e77 : m3.1 77 6 = m.1 77 6 + 1 := by
        rw [d5.1 77 6 (by omega) (by omega) (by omega)]
        unfold rfu
        rw [wI_e, wI_n (by omega), w _ _ (by omega)]
      have fold : rfm (rfu (mj_wI m3 77 6 (m.1 77 6)) 6) 6 = rfm m3 6 := by
        have e : rfu (mj_wI m3 77 6 (m.1 77 6)) 6 = m3 := by
          unfold rfu
          rw [wI_e, wI_wI, ← e77]
          exact wI_same rfl
        rw [e]
      rw [← fold]
      exact Rel_rf base 6
    rcases ref (rfu (mj_wI m2 0 11 (nI q)) 6) (fun a k y => by unfold rfu; rw [wI_n (by omega), wI_n (by omega)]; exact w a k (by omega)) w2 with ⟨q', d1, m3, d2, d3, d4, d5⟩ | ⟨r, d1, -⟩
    · have eq : q' = q := Sum.inl.inj (d1.symm.trans c1)
      subst eq
      exact ⟨-6, _, _, X, d2, Y m3 d2 d3 d4 d5⟩
    · rw [c1] at d1; cases d1
  · have w : ∀ a k, (a = 0 ∨ (18 ≤ a ∧ a < 55) ∨ 75 ≤ a) → m2.1 a k = m.1 a k := fun a k q => by rw [c6.1 a k q, b3.1 a k (by omega)]
    have w2 : m2.2 = m.2 := by rw [c6.2, b3.2]
    have nm : nI r.2 ≠ -1 := fun z => nI_pos (n := r.2) (by omega) (by rw [z]; decide)
    have X : f_X8_town N (nI s) m = some (nI r.2, mj_wI m2 0 11 (-1)) := by
      unfold f_X8_town
      rw [a, bind_some', if_pos rfl, mj_ck_t (bb_35 hs), nI_clamp (by omega), start, c2, bind_some', mw_eq, if_neg nm, c4]
    rcases ref (mj_wI m2 0 11 (-1)) (fun a k y => by rw [wI_n (by omega)]; exact w a k (by omega)) w2 with ⟨q', d1, -⟩ | ⟨r', d1, m3, d2, d3, d4, d5⟩
    · rw [c1] at d1; cases d1
    · have eq : r' = r := Sum.inr.inj (d1.symm.trans c1)
      subst eq
      refine ⟨nI r'.2, _, m3, X, d2, fin (mj_wI m2 0 11 (-1)) m3 (fun a k q => by rw [wI_n (by omega)]; exact w a k (by omega)) (by rw [wI_n (by omega)]; exact w _ _ (by omega)) w2 d5 r'.1 cG (Rep_same c3 cG (fun f i hd => ?_)) d4 (by rw [wI_e]; exact d3) (fun i hi => ?_)⟩
      · have := cA_rng (b := 1) (d := 8) rfl hd
        exact wI_n (by omega)
      · rw [wI_n (by omega)]; exact c5 i hi
