/-! ORDERS: SAVES, the reference -/
def Ez (m m' : mj_m) : Prop := (∀ a k, okA a k → a ≠ 108 → m'.1 a k = m.1 a k) ∧ (∀ a k, okL a → m'.2 a k = m.2 a k)
theorem Ez_r (m : mj_m) : Ez m m := ⟨fun _ _ _ _ => rfl, fun _ _ _ => rfl⟩
theorem Ez_t {m m' m'' : mj_m} (h : Ez m m') (h' : Ez m' m'') : Ez m m'' := ⟨fun a k q r => (h'.1 a k q r).trans (h.1 a k q r), fun a k q => (h'.2 a k q).trans (h.2 a k q)⟩
theorem Ez_w {m m' : mj_m} {a k : Nat} {v : Int32} (h : Ez m m') (q : a = 108 ∨ a = 123 ∨ (a = 95 ∧ k = 44)) : Ez m (mj_wI m' a k v) := Ez_t h ⟨fun b j hb hc => by
  rw [wI_1, up_at, if_neg]
  rintro ⟨rfl, rfl⟩
  rcases q with q | q | ⟨rfl, rfl⟩
  · exact hc q
  · rw [q] at hb; exact (n44 j).1 hb
  · exact (n44 0).2 hb, fun _ _ _ => rfl⟩
theorem Eqs_z {m m' : mj_m} (h : Eqs okA m m') : Ez m m' := ⟨fun a k q _ => h.1 a k q, h.2⟩
theorem Ez_M {m m' : mj_m} (e1 : m'.1 = m.1) (e2 : ∀ A K, A ≠ 121 → A ≠ 122 → m'.2 A K = m.2 A K) : Ez m m' := Eqs_z (Eq_M e1 e2)
theorem Ez_S {m m' : mj_m} {t : aT} {u : Nat → Int32} {st : Nat → Nat} (hG : Good t) (g : Rep (mg m) t u) (e : Ez m m') (hs : ∀ i, i < t 13 1 → m'.1 108 i = nI (st i)) : Rep (mg m') (tS t st) u :=
  Rep_tS hG g (fun a k q r => e.1 a k (Or.inr (Or.inr q)) r) hs
theorem Ez_A {m m' : mj_m} {t : aT} {u : Nat → Int32} (g : Rep (mg m) t u) (e : Ez m m') (hs : ∀ i, m'.1 108 i = m.1 108 i) : Eqs okA m m' := ⟨fun a k q => by
  by_cases y : a = 108
  · rw [y]; exact hs k
  · exact e.1 a k q y, e.2⟩
/-- one look for the house that saves most: what the loop comes to, whatever is behind it -/
theorem most9 {m0 m : mj_m} {t : aT} {u : Nat → Int32} (hG : Good t) (g : Rep (mg m0) t u) (e0 : Ez m0 m) (w : WZ m t) {a b : Nat} {L : List Nat} (ha : a ≤ 99) (o : SvO t a L) (ol : OL9 m t L) (hs : ∀ i, i < t 13 1 → m.1 108 i = nI (stL t L i)) {N : Nat} (hN : 1100 ≤ N) : ∃ m' : mj_m, m'.1 = m.1 ∧ (∀ A K, A ≠ 121 → m'.2 A K = m.2 A K) ∧ ∀ κ : Int32 × mj_m → Option mj_m, mj_lp N (f_X9_saves_16 N κ (nI a) (nI b)) ((-1 : Int32), 0, 0, m) = if (msN t a L (t 13 1)).1 = -1 then mj_lp N (f_X9_saves_162 N (nI b)) (0, m') else (mj_mw (mj_wI m' 95 44 ((m'.1 95 44) + 1)) (fun m3 => mj_ck (mj_b 0 123 (m'.1 95 44)) ( mj_mw (mj_wI m3 123 ((m'.1 95 44).toNatClampNeg) (msN t a L (t 13 1)).1) (fun m5 => mj_ck (mj_b 0 108 (msN t a L (t 13 1)).1) ( mj_mw (mj_wI m5 108 ((msN t a L (t 13 1)).1.toNatClampNeg) ((m5.1 108 (msN t a L (t 13 1)).1.toNatClampNeg) + 1)) (fun m7 => mj_mw (nI b ||| (1 <<< ((msN t a L (t 13 1)).1 &&& 31))) (fun x8 => κ (x8, m7))))))))  := by
  have gh := GH hG
  obtain ⟨s, ⟨-, r2, r3, r4⟩, r5⟩ := lp_cntK (K := Int32 × mj_m → Option mj_m) (B := fun κ => f_X9_saves_16 N κ (nI a) (nI b)) (E := fun κ s => if s.1 = (-1 : Int32) then ((mj_lp N (f_X9_saves_162 N (nI b)) (0, s.2.2.2))) else (mj_mw (mj_wI s.2.2.2 95 44 ((s.2.2.2.1 95 44) + 1)) (fun m3 => mj_ck (mj_b 0 123 (s.2.2.2.1 95 44)) ( mj_mw (mj_wI m3 123 ((s.2.2.2.1 95 44).toNatClampNeg) s.1) (fun m5 => mj_ck (mj_b 0 108 s.1) ( mj_mw (mj_wI m5 108 (s.1.toNatClampNeg) ((m5.1 108 s.1.toNatClampNeg) + 1)) (fun m7 => mj_mw (nI b ||| (1 <<< (s.1 &&& 31))) (fun x8 => κ (x8, m7)))))))))  (c := t 13 1) (N := N) (s0 := ((-1 : Int32), 0, 0, m)) (fun i s => s.2.2.1 = nI i ∧ (s.1, s.2.1) = msN t a L i ∧ s.2.2.2.1 = m.1 ∧ (∀ A K, A ≠ 121 → s.2.2.2.2 A K = m.2 A K)) (by omega)
    ⟨rfl, rfl, rfl, fun _ _ _ => rfl⟩
    (fun i s hi ⟨e1, e2, e3, e4⟩ => by
      have gr := Ez_S hG g e0 hs
      have gs : Rep (mg s.2.2.2) (tS t (stL t L)) u := RT_m (Good_tS hG (fun j hj => stL_le hG o hj)) gr (fun a k _ => by rw [e3])
      have hi' : i < tS t (stL t L) 13 1 := hi
      have sl := st_le hG hi
      have s2 := stL_le hG o hi
      obtain ⟨c1, c2⟩ := (hG.2.1 i hi).2.2.2.2.1
      have vst : s.2.2.2.1 108 i = nI (stL t L i) := by rw [e3]; exact hs i hi
      have vco : s.2.2.2.1 105 i = nI (t 4 i) := y_cost gs hi'
      have vh0 := y_houses gs
      have vh : s.2.2.2.1 95 1 = nI (t 13 1) := vh0
      have ols : OL9 s.2.2.2 t L := ⟨fun j hj => by rw [e3]; exact ol.1 j hj, by rw [e3]; exact ol.2.1, ol.2.2⟩
      have isin := OL9_in hG ols hi (N := N) (by omega)
      have u1 : s.1 = (msN t a L i).1 := by rw [← e2]
      have u2 : s.2.1 = (msN t a L i).2 := by rw [← e2]
      by_cases q : elg t a L i
      · have q1 := q.1
        have sh : stL t L i = t 7 i := if_neg q.2.2
        have gI : Good (tS t (inc (stL t L) i)) := Good_tS hG (fun j hj => inc_le hG o q hj)
        have e5 : Ez m0 (mj_wI s.2.2.2 108 i (nI (stL t L i + 1))) := Ez_w (Ez_t e0 (Ez_M e3 (fun A K q1 _ => e4 A K q1))) (by omega)
        have g1 := Ez_S (st := inc (stL t L) i) hG g e5 (fun j hj => by
          unfold inc
          by_cases y : j = i
          · rw [if_pos y, y, wI_e]
          · rw [if_neg y, wI_n (by omega), e3]; exact hs j hj)
        obtain ⟨m2, d1, d2, d3⟩ := meanY9 gI g1 (WZ_c (t := t) (m := m) (fun f q => tS_o t _ q) (fun j => e4 122 j (by omega)) w) hN
        rw [tS_7, YM_c (fun f q => tS_o t _ q)] at d1
        refine ⟨((msN t a L (i + 1)).1, (msN t a L (i + 1)).2, nI (i + 1), mj_wI m2 108 i (nI (stL t L i))), ⟨rfl, rfl, ?_, fun A K q => (d3 A K q).trans (e4 A K q)⟩, fun κ k => ?_⟩
        · funext A K
          rw [wI_1, up_at]
          by_cases y : A = 108 ∧ K = i
          · rw [if_pos y, y.1, y.2]; exact (hs i hi).symm
          · rw [if_neg y, d2, wI_n (by omega), e3]
        · have v2 : m2.1 108 i = nI (stL t L i + 1) := by rw [d2, wI_e]
          unfold f_X9_saves_16 f_X9_saves_103 f_X9_saves_110
          rw [vh, e1, if_neg (nI_ge hi (by omega)), mj_ck_t (bb_108 (by omega)), nI_clamp (by omega), vst, if_neg (ne2 (by omega) (by omega)), mj_ck_t (bb_105 (by omega)), vco, if_neg (nI_nlt q.2.1 (by omega)), isin, bind_some', decide_eq_false q.2.2, if_pos (by rfl), mw_eq, ← nI_succ, d1, bind_some', mw_eq, v2, nI_pred, u1, u2, msN_y q, nI_succ]
          simp only [mw_eq]
          by_cases y1 : (msN t a L i).1 = -1
          · rw [if_pos y1, if_pos (Or.inl y1)]
          · rw [if_neg y1]
            by_cases y2 : lg_cmp (YM t (inc (stL t L) i)) (msN t a L i).2 < 0
            · rw [if_pos y2, if_pos (Or.inr y2)]
            · rw [if_neg y2, if_neg (fun z => z.elim y1 y2)]
      · refine ⟨(s.1, s.2.1, nI (i + 1), s.2.2.2), ⟨rfl, by rw [msN_n q]; exact e2, e3, e4⟩, fun κ k => ?_⟩
        unfold f_X9_saves_16 f_X9_saves_110
        rw [vh, e1, if_neg (nI_ge hi (by omega)), mj_ck_t (bb_108 (by omega)), nI_clamp (by omega), vst]
        by_cases y1 : stL t L i = 2
        · rw [y1, if_pos (by rfl), mw_eq, nI_succ]
        · rw [if_neg (ne2 (by omega) y1), mj_ck_t (bb_105 (by omega)), vco]
          by_cases y2 : a < t 4 i
          · rw [if_pos (nI_lt y2 (by omega)), mw_eq, nI_succ]
          · have y3 : i ∈ L := Decidable.byContradiction (fun z => q ⟨by
              have : stL t L i = t 7 i := if_neg z
              omega, by omega, z⟩)
            rw [if_neg (nI_nlt (by omega) (by omega)), isin, bind_some', decide_eq_true y3, if_neg (by decide), mw_eq, nI_succ])
    (fun s ⟨e1, _, e3, _⟩ κ k => by
      have vh : s.2.2.2.1 95 1 = nI (t 13 1) := by rw [e3, e0.1 95 1 (by unfold okA okM; omega) (by omega)]; exact y_houses g
      unfold f_X9_saves_16
      rw [vh, e1, if_pos (nI_le (by omega) (by omega))])
  refine ⟨s.2.2.2, r3, r4, fun κ => ?_⟩
  rw [r5 κ, show s.1 = (msN t a L (t 13 1)).1 by rw [← r2]]
/-- the steps go back, the rests come -/
theorem back9 {m0 m : mj_m} {t : aT} {u : Nat → Int32} (hG : Good t) (g : Rep (mg m0) t u) (e0 : Ez m0 m) {a b : Nat} {L : List Nat} (o : SvO t a L) (ol : OL9 m t L) (hs : ∀ i, i < t 13 1 → m.1 108 i = nI (stL t L i)) (hr : ∀ i, t 13 1 ≤ i → m.1 108 i = m0.1 108 i) (hb : bitsL b L) {N : Nat} (hN : 1100 ≤ N) : ∃ m', mj_lp N (f_X9_saves_162 N (nI b)) (0, m) = some m' ∧ OL9 m' t (restL t L (t 13 1)) ∧ Eqs okA m0 m' := by
  have gh := GH hG
  obtain ⟨z, ⟨-, e2, e3, e4, e5⟩, e6⟩ := lp_cnt (B := f_X9_saves_162 N (nI b)) (E := fun z => (f_X9_rests N z.2).bind (fun r2 => some r2)) (c := t 13 1) (N := N) (s0 := (0, m)) (fun i z => z.1 = nI i ∧ OL9 z.2 t L ∧ Ez m0 z.2 ∧ (∀ j, j < t 13 1 → z.2.1 108 j = nI (if j < i then t 7 j else stL t L j)) ∧ (∀ j, t 13 1 ≤ j → z.2.1 108 j = m0.1 108 j)) (by omega)
    ⟨rfl, ol, e0, fun j hj => by rw [if_neg (by omega)]; exact hs j hj, hr⟩
    (fun i z hi ⟨e1, e2, e3, e4, e5⟩ => by
      have vh : z.2.1 95 1 = nI (t 13 1) := by rw [e3.1 95 1 (by unfold okA okM; omega) (by omega)]; exact y_houses g
      have v8 := e4 i hi
      rw [if_neg (by omega)] at v8
      have bt := hb.2 i (by omega)
      by_cases q : i ∈ L
      · have sh : stL t L i = t 7 i + 1 := if_pos q
        rw [sh] at v8
        refine ⟨(nI (i + 1), mj_wI z.2 108 i (nI (t 7 i))), ⟨rfl, ⟨fun j hj => by rw [wI_n (by omega)]; exact e2.1 j hj, by rw [wI_n (by omega)]; exact e2.2.1, e2.2.2⟩, Ez_w e3 (by omega), fun j hj => ?_, fun j hj => by rw [wI_n (by omega)]; exact e5 j hj⟩, fun k => ?_⟩
        · by_cases y : j = i
          · rw [y, wI_e, if_pos (by omega)]
          · rw [wI_n (by omega), e4 j hj]
            by_cases y2 : j < i
            · rw [if_pos y2, if_pos (by omega)]
            · rw [if_neg y2, if_neg (by omega)]
        · unfold f_X9_saves_162 f_X9_saves_189
          rw [vh, e1, if_neg (nI_ge hi (by omega)), if_pos ((n_bit1 b (by omega)).mpr (by rw [bt]; exact decide_eq_true q)), mj_ck_t (bb_108 (by omega)), nI_clamp (by omega), v8, nI_pred, mw_eq, mw_eq, nI_succ]
      · have sh : stL t L i = t 7 i := if_neg q
        refine ⟨(nI (i + 1), z.2), ⟨rfl, e2, e3, fun j hj => ?_, e5⟩, fun k => ?_⟩
        · rw [e4 j hj]
          by_cases y2 : j < i
          · rw [if_pos y2, if_pos (by omega)]
          · rw [if_neg y2]
            by_cases y : j = i
            · rw [if_pos (by omega), y, sh]
            · rw [if_neg (by omega)]
        · unfold f_X9_saves_162 f_X9_saves_189
          rw [vh, e1, if_neg (nI_ge hi (by omega)), if_neg (fun w => by
            have := (n_bit1 b (by omega)).mp w
            rw [bt, decide_eq_false q] at this; cases this), mw_eq, nI_succ])
    (fun z ⟨e1, _, e3, _, _⟩ k => by
      have vh : z.2.1 95 1 = nI (t 13 1) := by rw [e3.1 95 1 (by unfold okA okM; omega) (by omega)]; exact y_houses g
      unfold f_X9_saves_162
      rw [vh, e1, if_pos (nI_le (by omega) (by omega))])
  have ea : Eqs okA m0 z.2 := Ez_A g e3 (fun j => by
    rcases Nat.lt_or_ge j (t 13 1) with y | y
    · rw [e4 j y, if_pos y]; exact (y_steps g y).symm
    · exact e5 j y)
  obtain ⟨m', r1, r2, r3⟩ := rests9 hG (RT_m hG g (fun a k q => ea.1 a k (Or.inr (Or.inr q)))) e2 (N := N) (by omega)
  exact ⟨m', by rw [e6, r1]; rfl, r2, Eqs_t ea r3⟩
theorem sav9 {m : mj_m} {t : aT} {u : Nat → Int32} (hG : Good t) (g : Rep (mg m) t u) {s a : Nat} (hs : s < 8) (ha : a ≤ 99) (hk : m.1 113 s = nI 4) (hy : m.1 114 s = nI a) {N : Nat} (hN : 1100 ≤ N) : ∃ m', f_X9_orders N (nI s) m = some m' ∧ OL9 m' t (restL t (svL t a (t 13 1)) (t 13 1)) ∧ Eqs okA m m' := by
  have gh := GH hG
  have H : ∀ (d i M b : Nat) (m2 : mj_m), i + d = t 13 1 → d < M → bitsL b (svL t a i) → Ez m m2 → WZ m2 t → OL9 m2 t (svL t a i) → (∀ j, j < t 13 1 → m2.1 108 j = nI (stL t (svL t a i) j)) → (∀ j, t 13 1 ≤ j → m2.1 108 j = m.1 108 j) → ∃ m', mj_lp M (f_X9_saves_8 N (nI a)) (nI b, m2) = some m' ∧ OL9 m' t (restL t (svL t a (t 13 1)) (t 13 1)) ∧ Eqs okA m m' := by
    intro d
    induction d with
    | zero =>
      intro i M b m2 h1 h2 hbit e2 w2 o2 s2 r2
      obtain ⟨M, rfl⟩ : ∃ k, M = k + 1 := ⟨M - 1, by omega⟩
      have hi : i = t 13 1 := by omega
      subst hi
      obtain ⟨o, -⟩ := sv_ok gh a (t 13 1)
      obtain ⟨m3, x1, x2, x3⟩ := most9 (b := b) hG g e2 w2 ha o o2 s2 hN
      obtain ⟨m', y1, y2, y3⟩ := back9 hG g (Ez_t e2 (Ez_M x1 (fun A K q _ => x2 A K q))) o ⟨fun j hj => by rw [x1]; exact o2.1 j hj, by rw [x1]; exact o2.2.1, o2.2.2⟩ (fun j hj => by rw [x1]; exact s2 j hj) (fun j hj => by rw [x1]; exact r2 j hj) hbit hN
      refine ⟨m', ?_, y2, y3⟩
      show f_X9_saves_8 N (nI a) (mj_lp M _) (nI b, m2) = _
      unfold f_X9_saves_8
      dsimp only
      rw [x3, if_pos (sv_none gh a).1]
      exact y1
    | succ d ih =>
      intro i M b m2 h1 h2 hbit e2 w2 o2 s2 r2
      obtain ⟨M, rfl⟩ : ∃ k, M = k + 1 := ⟨M - 1, by omega⟩
      obtain ⟨o, -⟩ := sv_ok gh a i
      obtain ⟨m3, x1, x2, x3⟩ := most9 (b := b) hG g e2 w2 ha o o2 s2 hN
      have e3 : Ez m m3 := Ez_t e2 (Ez_M x1 (fun A K q _ => x2 A K q))
      have o3 : OL9 m3 t (svL t a i) := ⟨fun j hj => by rw [x1]; exact o2.1 j hj, by rw [x1]; exact o2.2.1, o2.2.2⟩
      have s3 : ∀ j, j < t 13 1 → m3.1 108 j = nI (stL t (svL t a i) j) := fun j hj => by rw [x1]; exact s2 j hj
      have r3 : ∀ j, t 13 1 ≤ j → m3.1 108 j = m.1 108 j := fun j hj => by rw [x1]; exact r2 j hj
      rcases msN_cases t a (svL t a i) (t 13 1) (by omega) with ⟨y1, y2⟩ | ⟨h, y1, y2, y3⟩
      · have fx := svL_fix y1 (d + 1)
        rw [h1] at fx
        obtain ⟨m', z1, z2, z3⟩ := back9 hG g e3 o o3 s3 r3 hbit hN
        refine ⟨m', ?_, by rw [fx]; exact z2, z3⟩
        show f_X9_saves_8 N (nI a) (mj_lp M _) (nI b, m2) = _
        unfold f_X9_saves_8
        dsimp only
        rw [x3, if_pos y1]
        exact z1
      · have room := nd_room o.1 y3.2.2 (fun x hx => (o.2 x hx).1) y1
        have nx : svL t a (i + 1) = svL t a i ++ [h] := nxL_y (by omega) y2
        have os := OL9_snoc o3 y3.2.2 y1
        obtain ⟨m', z1, z2, z3⟩ := ih (i + 1) M (b ||| 2 ^ h) (mj_wI (mj_wI (mj_wI m3 95 44 (nI ((svL t a i).length + 1))) 123 (svL t a i).length (nI h)) 108 h (nI (stL t (svL t a i) h + 1))) (by omega) (by omega) (by rw [nx]; exact bits_s hbit (by omega)) (Ez_w (Ez_w (Ez_w e3 (by omega)) (by omega)) (by omega)) (WZ_c (fun _ _ => rfl) (fun j => x2 122 j (by omega)) w2) (by
            rw [nx]
            exact ⟨fun j hj => by rw [wI_n (by omega)]; exact os.1 j hj, by rw [wI_n (by omega)]; exact os.2.1, os.2.2⟩) (fun j hj => by
            rw [nx, stL_snoc t y3.2.2]
            unfold inc
            by_cases y : j = h
            · rw [if_pos y, y, wI_e]
            · rw [if_neg y, wI_n (by omega), wI_n (by omega), wI_n (by omega)]; exact s3 j hj) (fun j hj => by rw [wI_n (by omega), wI_n (by omega), wI_n (by omega)]; exact r3 j hj)
        refine ⟨m', ?_, z2, z3⟩
        show f_X9_saves_8 N (nI a) (mj_lp M (f_X9_saves_8 N (nI a))) (nI b, m2) = _
        generalize mj_lp M (f_X9_saves_8 N (nI a)) = K at z1
        unfold f_X9_saves_8
        dsimp only
        rw [x3, y2, if_neg (nI_neg h (by omega)), mw_eq, o3.2.1, mj_ck_t (bb_123 (by omega)), nI_clamp (show (svL t a i).length < 2 ^ 31 by omega), mw_eq, mj_ck_t (bb_108 (by omega)), nI_clamp (show h < 2 ^ 31 by omega), mw_eq, mw_eq, n_shl h (by omega), n_or, wI_n (by omega), wI_n (by omega), s3 h y1, ← nI_succ, ← nI_succ]
        exact z1
  have g0 : Rep (mg (mj_wI m 95 44 0)) t u := RT_m hG g (fun a k q => by unfold okM at q; rw [wI_n (by omega)])
  obtain ⟨m1, b1, b2, b3, b4⟩ := worthsY9 hG g0 hN
  have e1 : Ez m m1 := Ez_t (Ez_w (Ez_r m) (by omega)) (Ez_M b3 (fun A K _ q => b4 A K q))
  obtain ⟨m', z1, z2, z3⟩ := H (t 13 1) 0 N 0 m1 (by omega) (by omega) bits_0 e1 b2 ⟨fun j hj => absurd hj (Nat.not_lt_zero j), by rw [b3, wI_e]; rfl, List.nodup_nil, fun x hx => by cases hx⟩ (fun j hj => by rw [b3, wI_n (by omega), y_steps g hj]; rfl) (fun j hj => by rw [b3, wI_n (by omega)])
  refine ⟨m', ?_, z2, z3⟩
  unfold f_X9_orders f_X9_saves
  rw [mw_eq, mj_ck_t (bb_113 hs), nI_clamp (by omega), wI_n (by omega), hk, if_pos (show nI 4 = 4 by decide), mj_ck_t (bb_114 hs), wI_n (by omega), hy, b1, bind_some']
  show (mj_lp N (f_X9_saves_8 N (nI a)) (nI 0, m1)).bind _ = _
  rw [z1]; rfl
