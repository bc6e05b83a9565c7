/-! PLANS: the loss by a row, on both sides -/
def stY (t : aT) (L : List Nat) (s0 : yS) : Nat → yS
  | 0 => s0
  | y + 1 => yr t L (stY t L s0 y)
def lsY (t : aT) (L : List Nat) (s0 : yS) : Nat → Int64
  | 0 => 0
  | y + 1 => lsY t L s0 y + YM t (stY t L s0 (y + 1)).2.1
def s0Y (t : aT) (u : Nat → Int32) : yS := (u 0, t 7, 0, 0)
theorem SpO_0 {t : aT} (hG : Good t) (u : Nat → Int32) (L : List Nat) : SpO t L (s0Y t u) := ⟨Nat.zero_le _, fun i hi => st_le hG hi, Nat.le_refl _⟩
theorem stY_ok {t : aT} {L : List Nat} (hL : ∀ x, x ∈ L → x < t 13 1) {s0 : yS} (o : SpO t L s0) : ∀ y, SpO t L (stY t L s0 y) := by
  intro y
  induction y with
  | zero => exact o
  | succ y ih => exact (yr_ok hL ih).1
theorem begin84 {m : mj_m} {t : aT} {u : Nat → Int32} {L : List Nat} (hG : Good t) (g : Rep (cg m 1 8) t u) (h9 : m.1 48 9 = nI L.length) (hr : Rw m 49 L) (N : Nat) : ∃ m', f_X4_begin N m = some m' ∧ PS8 m' t L (s0Y t u) ∧ Sp m m' := by
  have gh := GH hG
  refine ⟨mj_wI (mj_wI (mj_wI (mj_kI m 5 50 0 0 10) 48 11 (u 0)) 48 10 (nI 0)) 48 12 (nI 0), ?_, ⟨?_, ?_, ?_, ?_, ?_, ?_⟩, ?_⟩
  · unfold f_X4_begin
    rw [mj_ck_t (by decide), mw_eq, show (0 : Int32).toNatClampNeg = 0 from rfl, show (10 : Int32).toNatClampNeg = 10 from rfl, mw_eq, kI_n (by omega), x_purse g, mw_eq, mw_eq]
    rfl
  · rw [wI_n (by omega), wI_n (by omega), wI_n (by omega), kI_n (by omega)]; exact h9
  · rw [wI_n (by omega), wI_e]; rfl
  · rw [wI_n (by omega), wI_n (by omega), wI_e]; rfl
  · rw [wI_e]; rfl
  · intro j hj
    rw [wI_n (by omega), wI_n (by omega), wI_n (by omega), kI_n (by omega)]; exact hr j hj
  · intro i hi
    rw [wI_n (by omega), wI_n (by omega), wI_n (by omega), kI_e (by omega), x_steps g hi]; rfl
  · refine Sp_w (Sp_w (Sp_w ⟨fun a k q1 q2 => kI_n q2, rfl⟩ (by omega)) (by omega)) (by omega)
theorem loss8 {m : mj_m} {t : aT} {u : Nat → Int32} {L : List Nat} (hG : Good t) (hL : ∀ x, x ∈ L → x < t 13 1) (hl : L.length ≤ 10) (g : Rep (cg m 1 8) t u) (h9 : m.1 48 9 = nI L.length) (hr : Rw m 49 L) {n : Nat} (hn : n ≤ 20) {N : Nat} (hN : 1100 ≤ N) : ∃ m', f_X4_lossOfRow N (nI n) m = some (lsY t L (s0Y t u) n, m') ∧ Pd m m' := by
  have gh := GH hG
  obtain ⟨m1, a1, a2, a3⟩ := begin84 hG g h9 hr N
  obtain ⟨m2, b1, b2, b3⟩ := weighYear8 hG (Pd_c hG g (Sp_P a3)) hN
  have p2 : PS8 m2 t L (s0Y t u) := by
    obtain ⟨p1, p2, p3, p4, p5, p6⟩ := a2
    exact ⟨by rw [b3.1 _ _ (by omega)]; exact p1, by rw [b3.1 _ _ (by omega)]; exact p2, by rw [b3.1 _ _ (by omega)]; exact p3, by rw [b3.1 _ _ (by omega)]; exact p4, fun j hj => by rw [b3.1 _ _ (by omega)]; exact p5 j hj, fun j hj => by rw [b3.1 _ _ (by omega)]; exact p6 j hj⟩
  unfold f_X4_lossOfRow
  rw [a1, bind_some', b1, bind_some']
  obtain ⟨z, ⟨-, e2, e3, e4, e5, e6⟩, e7⟩ := lp_cnt (B := f_X4_lossOfRow_22 N (nI n)) (E := fun z => some (z.1, z.2.2.2.2)) (c := n) (N := N) (s0 := (0, 0, (-1 : Int32), 0, m2)) (fun y z => z.2.2.2.1 = nI y ∧ z.1 = lsY t L (s0Y t u) y ∧ PS8 z.2.2.2.2 t L (stY t L (s0Y t u) y) ∧ WY z.2.2.2.2 t ∧ Pd m z.2.2.2.2 ∧ (z.2.2.1 = -1 ∨ (z.2.2.1 = nI (stY t L (s0Y t u) y).2.2.2 ∧ z.2.1 = YM t (stY t L (s0Y t u) y).2.1))) (by omega)
    ⟨rfl, rfl, p2, b2, Pd_t (Sp_P a3) (Od_P b3), Or.inl rfl⟩
    (fun y z hy ⟨e1, e2, e3, e4, e5, e6⟩ => by
      have gs := Pd_c hG g e5
      have ok := stY_ok hL (SpO_0 hG u L) y
      have ok1 := stY_ok hL (SpO_0 hG u L) (y + 1)
      obtain ⟨m3, c1, c2, c3⟩ := spend8 hG hL hl gs e3 ok (N := N) (by omega)
      obtain ⟨y1, y2, y3⟩ := yr_ok hL ok
      have md : (stY t L (s0Y t u) y).2.2.2 ≤ 10 := by have := ok.1; have := ok.2.2; omega
      have md1 : (stY t L (s0Y t u) (y + 1)).2.2.2 ≤ 10 := by have := ok1.1; have := ok1.2.2; omega
      have v12 : m3.1 48 12 = nI (stY t L (s0Y t u) (y + 1)).2.2.2 := c2.2.2.2.1
      have ls : lsY t L (s0Y t u) (y + 1) = lsY t L (s0Y t u) y + YM t (stY t L (s0Y t u) (y + 1)).2.1 := rfl
      by_cases q : z.2.2.1 = nI (stY t L (s0Y t u) (y + 1)).2.2.2
      · have q2 : z.2.2.1 = nI (stY t L (s0Y t u) y).2.2.2 ∧ z.2.1 = YM t (stY t L (s0Y t u) y).2.1 := by
          rcases e6 with e6 | e6
          · rw [e6] at q; exact absurd q.symm (nI_neg _ (by omega))
          · exact e6
        have same : (stY t L (s0Y t u) (y + 1)).2.2.2 = (stY t L (s0Y t u) y).2.2.2 := (nI_eq (by omega) (by omega)).mp (q.symm.trans q2.1)
        have st : (stY t L (s0Y t u) (y + 1)).2.1 = (stY t L (s0Y t u) y).2.1 := y3 same
        refine ⟨(lsY t L (s0Y t u) (y + 1), z.2.1, z.2.2.1, nI (y + 1), m3), ⟨rfl, rfl, c2, Sp_W c3 e4, Pd_t e5 (Sp_P c3), Or.inr ⟨q, by rw [st]; exact q2.2⟩⟩, fun k => ?_⟩
        unfold f_X4_lossOfRow_22 f_X4_lossOfRow_60
        rw [e1, if_neg (nI_ge hy (by omega)), c1, bind_some', v12, if_pos q, mw_eq, mw_eq, e2, q2.2, ← st, ls, nI_succ]
      · have sa : StA m3 50 t (stY t L (s0Y t u) (y + 1)).2.1 := ⟨fun i hi => bb_50 hi, fun i hi => ⟨c2.2.2.2.2.2 i hi, ok1.2.1 i hi⟩⟩
        obtain ⟨m4, d1, d2⟩ := meanY8 hG (Pd_c hG gs (Sp_P c3)) (Sp_W c3 e4) (by decide) sa hN
        have p4 : PS8 m4 t L (stY t L (s0Y t u) (y + 1)) := by
          obtain ⟨p1, p2, p3, p4, p5, p6⟩ := c2
          exact ⟨by rw [d2.1 _ _ (by omega)]; exact p1, by rw [d2.1 _ _ (by omega)]; exact p2, by rw [d2.1 _ _ (by omega)]; exact p3, by rw [d2.1 _ _ (by omega)]; exact p4, fun j hj => by rw [d2.1 _ _ (by omega)]; exact p5 j hj, fun j hj => by rw [d2.1 _ _ (by omega)]; exact p6 j hj⟩
        refine ⟨(lsY t L (s0Y t u) (y + 1), YM t (stY t L (s0Y t u) (y + 1)).2.1, nI (stY t L (s0Y t u) (y + 1)).2.2.2, nI (y + 1), m4), ⟨rfl, rfl, p4, Os_W d2 (Sp_W c3 e4), Pd_t e5 (Pd_t (Sp_P c3) (Od_P (Os_O d2))), Or.inr ⟨rfl, rfl⟩⟩, fun k => ?_⟩
        unfold f_X4_lossOfRow_22 f_X4_lossOfRow_60
        rw [e1, if_neg (nI_ge hy (by omega)), c1, bind_some', v12, if_neg q, d1, bind_some', mw_eq, mw_eq, mw_eq, e2, d2.1 _ _ (by omega), v12, ls, nI_succ])
    (fun z ⟨e1, _⟩ k => by
      unfold f_X4_lossOfRow_22
      rw [e1, if_pos (nI_le (by omega) (by omega))])
  exact ⟨z.2.2.2.2, by rw [e7, e2], e5⟩
/-- the reference -/
theorem Rep_tSu {m m' : mj_m} {t : aT} {u : Nat → Int32} {st : Nat → Nat} (hG : Good t) (g : Rep (mg m) t u) (e : ∀ a k, okM a k → a ≠ 108 → ¬ (a = 95 ∧ 6 ≤ k) → m'.1 a k = m.1 a k) (hs : ∀ i, i < t 13 1 → m'.1 108 i = nI (st i)) : Rep (mg m') (tS t st) (fun i => m'.1 95 (6 + i)) := by
  have gh := GH hG
  have gS := GS hG
  have gK := GK hG
  have same : ∀ f i, dm f i → f ≠ 7 → f ≠ 14 → mg m' f i = mg m f i := by
    intro f i hd hf hf2
    have r := mA_rng hd
    have d := dm_use hd
    refine e _ _ (by unfold okM; omega) ?_ ?_
    · rcases mA_fm hd with ⟨_, q⟩ | ⟨_, q⟩ | ⟨_, q⟩ | ⟨_, q⟩ | ⟨_, q⟩ | ⟨_, q⟩ | ⟨_, q⟩ <;> rw [q] <;> dsimp only <;> omega
    · rcases mA_fm hd with ⟨_, q⟩ | ⟨_, q⟩ | ⟨_, q⟩ | ⟨_, q⟩ | ⟨_, q⟩ | ⟨_, q⟩ | ⟨_, q⟩ <;> rw [q] <;> dsimp only <;> omega
  obtain ⟨h1, h2, h3, h4, h5⟩ := g
  refine ⟨fun i hi => (same 13 i ⟨by omega, by simpa using hi⟩ (by omega) (by omega)).trans (h1 i hi), fun i hi => rfl, fun f hf i hi => ?_, fun f hf i hi => ?_, fun f hf i hi => ?_⟩
  · have hi' : i < t 13 1 := hi
    by_cases q : f = 7
    · subst q
      show m'.1 108 i = nI (st i) - 0
      rw [hs i hi', Int32.sub_zero]
    · rw [same f i ⟨by omega, by rw [if_pos hf]; omega⟩ q (by omega), tS_o t st q]; exact h3 f hf i hi'
  · have hi' : i < t 13 0 := hi
    rw [same f i ⟨by omega, by rw [if_neg (by omega), if_pos (by omega)]; omega⟩ (by omega) (by omega), tS_o t st (by omega)]; exact h4 f hf i hi'
  · have hi' : i < t 13 2 := hi
    rw [same f i ⟨by omega, by rw [if_neg (by omega), if_neg (by omega), if_pos (by omega)]; omega⟩ (by omega) (by omega), tS_o t st (by omega)]; exact h5 f hf i hi'
/-- what a plan of the reference leaves alone -/
def Fp (m m' : mj_m) : Prop := (∀ a k, a ≠ 120 → ¬ (a = 95 ∧ (k = 47 ∨ k = 48)) → m'.1 a k = m.1 a k) ∧ (∀ a k, a ≠ 121 → a ≠ 122 → m'.2 a k = m.2 a k)
theorem Fp_r (m : mj_m) : Fp m m := ⟨fun _ _ _ _ => rfl, fun _ _ _ _ => rfl⟩
theorem Fp_t {m m' m'' : mj_m} (h : Fp m m') (h' : Fp m' m'') : Fp m m'' := ⟨fun a k q r => (h'.1 a k q r).trans (h.1 a k q r), fun a k q r => (h'.2 a k q r).trans (h.2 a k q r)⟩
theorem Fp_E {m m' : mj_m} (h : Fp m m') : Eqs okA m m' := ⟨fun a k q => h.1 a k (by unfold okA okN okC okM at q; omega) (by unfold okA okN okC okM at q; omega), fun a k q => h.2 a k (by unfold okL at q; omega) (by unfold okL at q; omega)⟩
theorem planned9 {m : mj_m} {t : aT} {u : Nat → Int32} {L : List Nat} (hG : Good t) (hL : ∀ x, x ∈ L → x < t 13 1) (hl : L.length ≤ 10) (g : Rep (mg m) t u) (h46 : m.1 95 46 = nI L.length) (hr : Rw m 124 L) {n : Nat} (hn : n ≤ 20) {N : Nat} (hN : 1100 ≤ N) : ∃ m', f_X9_planned N (nI n) m = some (lsY t L (s0Y t u) n, m') ∧ m'.1 95 48 = nI (stY t L (s0Y t u) n).2.2.2 ∧ Fp m m' := by
  have gh := GH hG
  obtain ⟨m1, a1, a2⟩ := all_save (A := 120) (by omega) m (N := N) (by omega)
  have g1 : Rep (mg m1) t u := RT_m hG g (fun a k q => a2.2.1 a k (by unfold okM at q; omega))
  obtain ⟨m2, b1, b2, b3, b4⟩ := worthsY9 hG g1 hN
  unfold f_X9_planned
  rw [a1, bind_some', b1, bind_some', mw_eq, mw_eq]
  have q0 : Sq m2 (mj_wI (mj_wI m2 95 47 0) 95 48 0) := Sq_w (Sq_w (Sq_r m2) (by omega)) (by omega)
  have p0 : PS9 (mj_wI (mj_wI m2 95 47 0) 95 48 0) t L (s0Y t u) := by
    refine ⟨?_, ?_, ?_, ?_, ?_, ?_⟩
    · rw [wI_n (by omega), wI_n (by omega), b3, a2.2.1 _ _ (by omega)]; exact h46
    · rw [wI_n (by omega), wI_e]; rfl
    · rw [wI_n (by omega), wI_n (by omega), b3]; exact y_purse g1
    · rw [wI_e]; rfl
    · intro j hj
      rw [wI_n (by omega), wI_n (by omega), b3, a2.2.1 _ _ (by omega)]; exact hr j hj
    · intro i hi
      rw [wI_n (by omega), wI_n (by omega), b3]; exact y_steps g1 hi
  obtain ⟨z, ⟨-, e2, e3, e4, e5, e6⟩, e7⟩ := lp_cnt (B := f_X9_planned_30 N (nI n)) (E := fun z => (f_X9_all N 120 1 z.2.2).bind (fun r2 => some (z.1, r2))) (c := n) (N := N) (s0 := (0, 0, mj_wI (mj_wI m2 95 47 0) 95 48 0)) (fun y z => z.2.1 = nI y ∧ z.1 = lsY t L (s0Y t u) y ∧ PS9 z.2.2 t L (stY t L (s0Y t u) y) ∧ WZ z.2.2 t ∧ (∀ a k, ¬ (a = 95 ∧ (k = 6 ∨ k = 47 ∨ k = 48)) → ¬ (a = 108 ∧ k < 10) → z.2.2.1 a k = m1.1 a k) ∧ (∀ A K, A ≠ 121 → z.2.2.2 A K = m2.2 A K)) (by omega)
    ⟨rfl, rfl, p0, WZ_c (fun _ _ => rfl) (fun _ => rfl) b2, fun a k r1 r2 => by rw [q0.1 a k r1 r2, b3], fun _ _ _ => rfl⟩
    (fun y z hy ⟨e1, e2, e3, e4, e5, e6⟩ => by
      have ok := stY_ok hL (SpO_0 hG u L) y
      have ok1 := stY_ok hL (SpO_0 hG u L) (y + 1)
      obtain ⟨m3, c1, c2, c3⟩ := builds9 hG hL hl (m := z.2.2) (fun i hi => by rw [e5 105 i (by omega) (by omega)]; exact y_cost g1 hi) (by rw [e5 95 3 (by omega) (by omega)]; exact y_coin g1) e3 ok (N := N) (by omega)
      have g3 : Rep (mg m3) (tS t (stY t L (s0Y t u) (y + 1)).2.1) (fun i => m3.1 95 (6 + i)) := Rep_tSu hG g1 (fun a k r1 r2 r3 => by
        rw [c3.1 a k (by unfold okM at r1; omega) (by omega)]; exact e5 a k (by unfold okM at r1; omega) (by omega)) c2.2.2.2.2.2
      have w3 : WZ m3 t := WZ_c (fun _ _ => rfl) (fun k => by rw [c3.2]) e4
      obtain ⟨m4, d1, d2, d3⟩ := meanY9 (Good_tS hG ok1.2.1) g3 (WZ_c (fun f q => tS_o t _ q) (fun _ => rfl) w3) hN
      rw [tS_7, YM_c (fun f q => tS_o t _ q)] at d1
      refine ⟨(lsY t L (s0Y t u) (y + 1), nI (y + 1), m4), ⟨rfl, rfl, ?_, WZ_c (fun _ _ => rfl) (fun k => d3 122 k (by omega)) w3, fun a k r1 r2 => by rw [d2, c3.1 a k r1 r2]; exact e5 a k r1 r2, fun A K q => by rw [d3 A K q, c3.2]; exact e6 A K q⟩, fun k => ?_⟩
      · obtain ⟨p1, p2, p3, p4, p5, p6⟩ := c2
        exact ⟨by rw [d2]; exact p1, by rw [d2]; exact p2, by rw [d2]; exact p3, by rw [d2]; exact p4, fun j hj => by rw [d2]; exact p5 j hj, fun j hj => by rw [d2]; exact p6 j hj⟩
      · unfold f_X9_planned_30
        rw [e1, if_neg (nI_ge hy (by omega)), c1, bind_some', d1, bind_some', mw_eq, mw_eq, e2, nI_succ]
        rfl)
    (fun z ⟨e1, _⟩ k => by
      unfold f_X9_planned_30
      rw [e1, if_pos (nI_le (by omega) (by omega))])
  obtain ⟨m5, x1, x2⟩ := all_load (A := 120) (by omega) z.2.2 (N := N) (by omega)
  have ns : ∀ k, 10 ≤ k → ∀ j, j < 132 → srcJ j ≠ (95, k) := fun k hk j hj y => by
    have := src_rng j hj
    rw [y] at this
    dsimp only at this
    omega
  refine ⟨m5, by rw [e7, x1, e2]; rfl, ?_, ?_, ?_⟩
  · rw [x2.2.1 95 48 (ns 48 (by omega))]; exact e3.2.2.2.1
  · intro a k h1 h2
    by_cases y : ∃ j, j < 132 ∧ srcJ j = (a, k)
    · obtain ⟨j, hj, ej⟩ := y
      have := save_load (by omega) a2 (fun i hi => by
        rw [e5 120 i (by omega) (by omega)]) x2 j hj
      rw [ej] at this
      exact this
    · rw [x2.2.1 a k (fun j hj ej => y ⟨j, hj, ej⟩)]
      have n6 : ¬ (a = 95 ∧ k = 6) := fun q => y ⟨128, by omega, by rw [q.1, q.2]; rfl⟩
      have n8 : ¬ (a = 108 ∧ k < 10) := fun q => y ⟨102 + k, by omega, by
        rw [q.1]
        unfold srcJ
        have t1 : (102 + k - 32) / 10 = 7 := by omega
        have t2 : (102 + k - 32) % 10 = k := by omega
        rw [if_neg (by omega), if_neg (by omega), if_neg (by omega), if_neg (by omega), if_pos (by omega), t1, t2]⟩
      rw [e5 a k (by omega) n8, a2.2.1 a k h1]
  · intro A K h1 h2
    rw [x2.2.2, e6 A K h1, b4 A K h2, a2.2.2]
/-- the reference's row by a rule -/
theorem rowBy9 {m : mj_m} {t : aT} {u : Nat → Int32} (hG : Good t) (g : Rep (mg m) t u) {s k a n : Nat} {e : Nat → Int32} (hs : s < 8) (r : Ru m s k a e n) {N : Nat} (hN : 1100 ≤ N) : ∃ m', f_X9_rowBy N (nI s) m = some m' ∧ m'.1 95 46 = nI (ordL t k a e n).length ∧ Rw m' 124 (ordL t k a e n) ∧ Eqs okA m m' := by
  have gh := GH hG
  obtain ⟨m1, a1, a2, a3⟩ := orders9 hG g hs r hN
  have ll := OL9_len a2
  unfold f_X9_rowBy
  rw [a1, bind_some', mw_eq, a2.2.1]
  have n46 : ¬ okA 95 46 := by unfold okA okN okC okM; omega
  have n124 : ∀ j, ¬ okA 124 j := fun j => by unfold okA okN okC okM; omega
  obtain ⟨z, ⟨-, e2, e3, e4, e5, e6⟩, e7⟩ := lp_cnt (B := f_X9_rowBy_15 N) (E := fun z => some z.2) (c := (ordL t k a e n).length) (N := N) (s0 := (0, mj_wI m1 95 46 (nI (ordL t k a e n).length))) (fun i z => z.1 = nI i ∧ (∀ j, j < i → z.2.1 124 j = nI (gd (ordL t k a e n) j)) ∧ z.2.1 95 44 = nI (ordL t k a e n).length ∧ z.2.1 95 46 = nI (ordL t k a e n).length ∧ Rw z.2 123 (ordL t k a e n) ∧ Eqs okA m z.2) (by omega)
    ⟨rfl, fun j hj => absurd hj (Nat.not_lt_zero j), by rw [wI_n (by omega)]; exact a2.2.1, wI_e, fun j hj => by rw [wI_n (by omega)]; exact a2.1 j hj, Eqs_w a3 n46⟩
    (fun i z hi ⟨e1, e2, e3, e4, e5, e6⟩ => by
      refine ⟨(nI (i + 1), mj_wI z.2 124 i (nI (gd (ordL t k a e n) i))), ⟨rfl, fun j hj => ?_, by rw [wI_n (by omega)]; exact e3, by rw [wI_n (by omega)]; exact e4, fun j hj => by rw [wI_n (by omega)]; exact e5 j hj, Eqs_w e6 (n124 _)⟩, fun k' => ?_⟩
      · by_cases y : j = i
        · rw [y, wI_e]
        · rw [wI_n (by omega)]; exact e2 j (by omega)
      · unfold f_X9_rowBy_15
        rw [e3, e1, if_neg (nI_ge hi (by omega)), mj_ck_t (bb_123 (by omega)), mj_ck_t (bb_124 (by omega)), nI_clamp (by omega), e5 i hi, mw_eq, mw_eq, nI_succ])
    (fun z ⟨e1, _, e3, _, _, _⟩ k' => by
      unfold f_X9_rowBy_15
      rw [e3, e1, if_pos (nI_le (by omega) (by omega))])
  exact ⟨z.2, e7, e4, e2, e6⟩
theorem lossRule8 {m : mj_m} {t : aT} {u : Nat → Int32} (hG : Good t) (g : Rep (cg m 1 8) t u) {s k a n' : Nat} {e : Nat → Int32} (hs : s < 8) (r : Ru m s k a e n') {n : Nat} (hn : n ≤ 20) {N : Nat} (hN : 1100 ≤ N) : ∃ m', f_X4_lossByRule N (79 + 2 * s) (nI n) m = some (lsY t (ordL t k a e n') (s0Y t u) n, m') ∧ Pd m m' := by
  have gh := GH hG
  obtain ⟨m1, a1, a2, a3⟩ := arrange8 hG g hs r (Or.inr rfl) hN
  have ll := ordL_len gh k a e n'
  obtain ⟨m2, b1, b2⟩ := loss8 hG (ordL_ok gh k a e n').2 (by omega) (m := mj_wI m1 48 9 (nI (ordL t k a e n').length)) (u := u) (Pd_c hG g (Pd_w a3 (by omega))) wI_e (fun j hj => by rw [wI_n (by omega)]; exact a2 j hj) hn hN
  refine ⟨m2, ?_, Pd_t (Pd_w a3 (by omega)) b2⟩
  unfold f_X4_lossByRule
  rw [a1, bind_some', mw_eq, b1]; rfl
theorem stepsRule8 {m : mj_m} {t : aT} {u : Nat → Int32} (hG : Good t) (g : Rep (cg m 1 8) t u) {s k a n' : Nat} {e : Nat → Int32} (hs : s < 8) (r : Ru m s k a e n') {n : Nat} (hn : n ≤ 20) {N : Nat} (hN : 1100 ≤ N) : ∃ m', f_X4_stepsByRule N (79 + 2 * s) (nI n) m = some (nI (stY t (ordL t k a e n') (s0Y t u) n).2.2.2, m') ∧ Pd m m' := by
  have gh := GH hG
  obtain ⟨m1, a1, a2, a3⟩ := arrange8 hG g hs r (Or.inr rfl) hN
  have ll := ordL_len gh k a e n'
  have hL := (ordL_ok gh k a e n').2
  have pw : Pd m (mj_wI m1 48 9 (nI (ordL t k a e n').length)) := Pd_w a3 (by omega)
  obtain ⟨m2, b1, b2, b3⟩ := begin84 hG (m := mj_wI m1 48 9 (nI (ordL t k a e n').length)) (L := ordL t k a e n') (Pd_c hG g pw) wI_e (fun j hj => by rw [wI_n (by omega)]; exact a2 j hj) N
  unfold f_X4_stepsByRule
  rw [a1, bind_some', mw_eq]
  dsimp only
  rw [b1, bind_some']
  obtain ⟨z, ⟨-, e3, e5⟩, e7⟩ := lp_cnt (B := f_X4_stepsByRule_22 N (nI n)) (E := fun z => some (z.2.1 48 12, z.2)) (c := n) (N := N) (s0 := (0, m2)) (fun y z => z.1 = nI y ∧ PS8 z.2 t (ordL t k a e n') (stY t (ordL t k a e n') (s0Y t u) y) ∧ Pd m z.2) (by omega)
    ⟨rfl, b2, Pd_t pw (Sp_P b3)⟩
    (fun y z hy ⟨e1, e3, e5⟩ => by
      obtain ⟨m3, c1, c2, c3⟩ := spend8 hG hL (by omega) (Pd_c hG g e5) e3 (stY_ok hL (SpO_0 hG u _) y) (N := N) (by omega)
      refine ⟨(nI (y + 1), m3), ⟨rfl, c2, Pd_t e5 (Sp_P c3)⟩, fun k' => ?_⟩
      unfold f_X4_stepsByRule_22
      rw [e1, if_neg (nI_ge hy (by omega)), c1, bind_some', mw_eq, nI_succ])
    (fun z ⟨e1, _⟩ k' => by
      unfold f_X4_stepsByRule_22
      rw [e1, if_pos (nI_le (by omega) (by omega))])
  exact ⟨z.2, by rw [e7, e3.2.2.2.1], e5⟩
