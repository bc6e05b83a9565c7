/-! YEARS: draws, what a shake does, what years do; the class -/
theorem nI_plus (a b : Nat) : nI a + nI b = nI (a + b) := (Int32.ofNat_add a b).symm
def drS (x : Int32) : Int32 := (x * 1103515245) + 12345
def drV (v x : Int32) : Int32 := ((x.toUInt32 >>> ((16 : Int32).toUInt32 &&& Int32.toUInt32 31)).toInt32) - ((x.toUInt32 >>> ((16 : Int32).toUInt32 &&& Int32.toUInt32 31)).toInt32) / v * v
theorem wI_wI (m : mj_m) (a k : Nat) (x y : Int32) : mj_wI (mj_wI m a k x) a k y = mj_wI m a k y := by
  refine Prod.ext ?_ rfl
  funext A K
  rw [wI_1, up_at, wI_1, up_at, wI_1, up_at]
  by_cases q : A = a ∧ K = k
  · rw [if_pos q, if_pos q]
  · rw [if_neg q, if_neg q, if_neg q]
theorem wI_same {m : mj_m} {a k : Nat} {x : Int32} (h : m.1 a k = x) : mj_wI m a k x = m := by
  refine Prod.ext ?_ rfl
  funext A K
  rw [wI_1, up_at]
  by_cases q : A = a ∧ K = k
  · rw [if_pos q, q.1, q.2, h]
  · rw [if_neg q]
theorem draw8 (N : Nat) {v : Int32} (h0 : ¬ v ≤ 0) (h1 : ¬ v = 0) (m : mj_m) (x : Int32) : f_X7_draw N v (mj_wI m 1 15 x) = some (drV v (drS x), mj_wI m 1 15 (drS x)) := by
  unfold f_X7_draw
  rw [wI_e, wI_wI, mw_eq, if_neg h0, mj_ck_t (decide_eq_true h1), wI_e]; rfl
theorem draw9 (N : Nat) {v : Int32} (h1 : ¬ v = 0) (m : mj_m) (x : Int32) : f_X9_draw N v (mj_wI m 95 9 x) = some (drV v (drS x), mj_wI m 95 9 (drS x)) := by
  unfold f_X9_draw
  rw [wI_e, wI_wI, mw_eq, mj_ck_t (decide_eq_true h1), wI_e]; rfl
def flM (t : aT) (k : Nat) (x : Int32) : Nat → Nat × Int32
  | 0 => (0, x)
  | h + 1 => (if nI (fN t (t 7) h k) ≤ drV 10 (drS (flM t k x h).2) then (flM t k x h).1 else (flM t k x h).1 ||| 2 ^ h, drS (flM t k x h).2)
def hdP (t : aT) (day : Bool) (h : Nat) : Int32 := if day = true then nI (t 2 h) else nI (t 3 h)
def dcM (t : aT) (day : Bool) (set cut : Nat) : Nat → Int32 × Int32
  | 0 => (0, 0)
  | h + 1 => if set.testBit h = true then ((dcM t day set cut h).1 + hdP t day h, (dcM t day set cut h).2) else if cut.testBit (t 0 h) = true then ((dcM t day set cut h).1, (dcM t day set cut h).2 + hdP t day h) else dcM t day set cut h
theorem dcM_f {t : aT} {day : Bool} {set cut h : Nat} (q : set.testBit h = true) : dcM t day set cut (h + 1) = ((dcM t day set cut h).1 + hdP t day h, (dcM t day set cut h).2) := if_pos q
theorem dcM_c {t : aT} {day : Bool} {set cut h : Nat} (q : ¬ set.testBit h = true) (r : cut.testBit (t 0 h) = true) : dcM t day set cut (h + 1) = ((dcM t day set cut h).1, (dcM t day set cut h).2 + hdP t day h) := (if_neg q).trans (if_pos r)
theorem dcM_n {t : aT} {day : Bool} {set cut h : Nat} (q : ¬ set.testBit h = true) (r : ¬ cut.testBit (t 0 h) = true) : dcM t day set cut (h + 1) = dcM t day set cut h := (if_neg q).trans (if_neg r)
def dyB (t : aT) (x : Int32) : Bool := decide (¬ nI (t 13 5) ≤ drV 10 (drS x))
def stM (t : aT) (k : Nat) (x : Int32) : Int32 × Int32 :=
  ((dcM t (dyB t x) (flM t k (drS x) (t 13 1)).1 (cutN t (shuN t (flM t k (drS x) (t 13 1)).1 (t 13 1))) (t 13 1)).1 + (dcM t (dyB t x) (flM t k (drS x) (t 13 1)).1 (cutN t (shuN t (flM t k (drS x) (t 13 1)).1 (t 13 1))) (t 13 1)).2 * nI (t 13 4) / 10, (flM t k (drS x) (t 13 1)).2)
def skM (t : aT) (x : Int32) : Nat → Int32 × Int32
  | 0 => (0, x)
  | k + 1 => if nI (t 11 k) ≤ drV 1000 (drS (skM t x k).2) then ((skM t x k).1, drS (skM t x k).2) else ((skM t x k).1 + (stM t k (drS (skM t x k).2)).1, (stM t k (drS (skM t x k).2)).2)
theorem skM_n {t : aT} {x : Int32} {k : Nat} (q : nI (t 11 k) ≤ drV 1000 (drS (skM t x k).2)) : skM t x (k + 1) = ((skM t x k).1, drS (skM t x k).2) := if_pos q
theorem skM_y {t : aT} {x : Int32} {k : Nat} (q : ¬ nI (t 11 k) ≤ drV 1000 (drS (skM t x k).2)) : skM t x (k + 1) = ((skM t x k).1 + (stM t k (drS (skM t x k).2)).1, (stM t k (drS (skM t x k).2)).2) := if_neg q
def eY (t : aT) : aT := fun f i => if f = 2 then min 99 (t 2 i + t 7 i) else if f = 3 then min 99 (t 3 i + t 7 i) else if f = 8 then 0 else t f i
theorem eY_o (t : aT) {f : Nat} (h2 : f ≠ 2) (h3 : f ≠ 3) (h8 : f ≠ 8) : eY t f = t f := funext (fun i => by unfold eY; rw [if_neg h2, if_neg h3, if_neg h8])
theorem Good_eY {t : aT} (h : Good t) : Good (eY t) := by
  refine ⟨?_, fun i hi => ?_, ?_, ?_⟩
  · rw [eY_o t (by decide) (by decide) (by decide)]; exact h.1
  · rw [eY_o t (f := 13) (by decide) (by decide) (by decide)] at hi
    rw [eY_o t (f := 13) (by decide) (by decide) (by decide), eY_o t (f := 0) (by decide) (by decide) (by decide), eY_o t (f := 1) (by decide) (by decide) (by decide), eY_o t (f := 4) (by decide) (by decide) (by decide), eY_o t (f := 5) (by decide) (by decide) (by decide), eY_o t (f := 6) (by decide) (by decide) (by decide), eY_o t (f := 7) (by decide) (by decide) (by decide)]
    obtain ⟨a0, a1, a2, a3, a4, a5, a6, a7, a8⟩ := h.2.1 i hi
    exact ⟨a0, a1, Nat.min_le_left _ _, Nat.min_le_left _ _, a4, a5, a6, a7, Nat.zero_le _⟩
  · rw [eY_o t (f := 13) (by decide) (by decide) (by decide), eY_o t (f := 9) (by decide) (by decide) (by decide), eY_o t (f := 10) (by decide) (by decide) (by decide)]; exact h.2.2.1
  · rw [eY_o t (f := 13) (by decide) (by decide) (by decide), eY_o t (f := 11) (by decide) (by decide) (by decide), eY_o t (f := 12) (by decide) (by decide) (by decide)]; exact h.2.2.2
def yrN (t : aT) (u : Nat → Int32) (L : List Nat) : Int32 × aT × (Nat → Int32) :=
  ((skM (tS t (yr t L (s0Y t u)).2.1) (u 3) (t 13 2)).1, eY (tS t (yr t L (s0Y t u)).2.1), fun i => if i = 0 then (yr t L (s0Y t u)).1 else if i = 1 then u 1 + 1 else if i = 2 then u 2 + (skM (tS t (yr t L (s0Y t u)).2.1) (u 3) (t 13 2)).1 else (skM (tS t (yr t L (s0Y t u)).2.1) (u 3) (t 13 2)).2)
/-- the class: the town's numbers from cells -/
theorem Rep_cX {m m' : mj_m} {t t' : aT} {u : Nat → Int32} (hG : Good t) (g : Rep (cg m 1 8) t u) (e : ∀ a k, okC a k → ¬ (a = 1 ∧ 12 ≤ k) → a ≠ 5 → ¬ (8 ≤ a ∧ (k = 2 ∨ k = 3 ∨ k = 7)) → m'.1 a k = m.1 a k) (ht : ∀ f, f ≠ 2 → f ≠ 3 → f ≠ 7 → f ≠ 8 → t' f = t f) (h2 : ∀ h, h < t 13 1 → m'.1 (8 + h) 2 = nI (t' 2 h) ∧ m'.1 (8 + h) 3 = nI (t' 3 h) ∧ m'.1 5 h = nI (t' 7 h) ∧ m'.1 (8 + h) 7 = nI (t' 8 h)) : Rep (cg m' 1 8) t' (fun i => m'.1 1 (12 + i)) := by
  have gh := GH hG
  have gS := GS hG
  have gK := GK hG
  have same : ∀ f i, dm f i → f ≠ 2 → f ≠ 3 → f ≠ 7 → f ≠ 8 → f ≠ 14 → cg m' 1 8 f i = cg m 1 8 f i := by
    intro f i hd f2 f3 f7 f8 f14
    have r := cA_rng (b := 1) (d := 8) rfl hd
    have d := dm_use hd
    have cs := cA_fm (b := 1) (d := 8) hd
    refine e _ _ (by unfold okC; omega) ?_ ?_ ?_ <;>
    rcases cs with ⟨q0, q⟩ | ⟨q0, q⟩ | ⟨q0, q⟩ | ⟨q0, q⟩ | ⟨q0, q⟩ | ⟨q0, q⟩ | ⟨q0, q⟩ | ⟨q0, q⟩ | ⟨q0, q⟩ <;> rw [q] <;> dsimp only <;> omega
  obtain ⟨g1, -, g3, g4, g5⟩ := g
  have t13 := ht 13 (by decide) (by decide) (by decide) (by decide)
  refine ⟨fun i hi => ?_, fun i hi => rfl, fun f hf i hi => ?_, fun f hf i hi => ?_, fun f hf i hi => ?_⟩
  · rw [t13]; exact (same 13 i ⟨by omega, by simpa using hi⟩ (by omega) (by omega) (by omega) (by omega) (by omega)).trans (g1 i hi)
  · rw [t13] at hi
    obtain ⟨a2, a3, a7, a8⟩ := h2 i hi
    rcases Nat.lt_or_ge f 9 with _ | _
    · by_cases q2 : f = 2
      · subst q2; show m'.1 (8 + i) 2 = nI (t' 2 i) - 0; rw [a2, Int32.sub_zero]
      by_cases q3 : f = 3
      · subst q3; show m'.1 (8 + i) 3 = nI (t' 3 i) - 0; rw [a3, Int32.sub_zero]
      by_cases q7 : f = 7
      · subst q7; show m'.1 5 i = nI (t' 7 i) - 0; rw [a7, Int32.sub_zero]
      by_cases q8 : f = 8
      · subst q8; show m'.1 (8 + i) 7 = nI (t' 8 i) - 0; rw [a8, Int32.sub_zero]
      rw [same f i ⟨by omega, by rw [if_pos hf]; omega⟩ q2 q3 q7 q8 (by omega), ht f q2 q3 q7 q8]; exact g3 f hf i hi
    · omega
  · rw [t13] at hi
    rw [same f i ⟨by omega, by rw [if_neg (by omega), if_pos (by omega)]; omega⟩ (by omega) (by omega) (by omega) (by omega) (by omega), ht f (by omega) (by omega) (by omega) (by omega)]; exact g4 f hf i hi
  · rw [t13] at hi
    rw [same f i ⟨by omega, by rw [if_neg (by omega), if_neg (by omega), if_pos (by omega)]; omega⟩ (by omega) (by omega) (by omega) (by omega) (by omega), ht f (by omega) (by omega) (by omega) (by omega)]; exact g5 f hf i hi
theorem g_seed8 {m : mj_m} {t : aT} {u : Nat → Int32} (hG : Good t) (g : Rep (cg m 1 8) t u) (x : Int32) : Rep (cg (mj_wI m 1 15 x) 1 8) t (fun i => if i = 3 then x else u i) := Rep_cu (j := 3) hG g (by decide)
theorem shuF {t : aT} : True := trivial
theorem strike8 {m : mj_m} {t : aT} {u : Nat → Int32} (hG : Good t) (g : Rep (cg m 1 8) t u) {k : Nat} (hk : k < t 13 2) (x : Int32) {N : Nat} (hN : 20 ≤ N) : f_X7_strike N (nI k) (mj_wI m 1 15 x) = some ((stM t k x).1, mj_wI m 1 15 (stM t k x).2) := by
  have gh := GH hG
  have count : ∀ (day : Bool) (v2 : Int32) (set cut : Nat) (z : Int32), v2 = (if day = true then 1 else 0) → mj_lp N (f_X7_strike_86 N v2 (nI set) (nI cut) (mj_wI m 1 15 z)) (0, 0, 0) = some ((dcM t day set cut (t 13 1)).1 + (dcM t day set cut (t 13 1)).2 * nI (t 13 4) / 10, mj_wI m 1 15 z) := by
    intro day v2 set cut z hv
    have gz := g_seed8 hG g z
    refine lp_for (fun h => ((dcM t day set cut h).1, (dcM t day set cut h).2, nI h)) (c := t 13 1) (by omega) (fun h hh κ => ?_) (fun κ => ?_)
    · have c8 := (hG.2.1 h hh).1
      have main : ∀ s0 : Int32, s0 = hdP t day h → f_X7_strike_122 N κ v2 (nI set) (nI cut) (dcM t day set cut h).1 (dcM t day set cut h).2 (nI h) s0 (mj_wI m 1 15 z) = κ ((dcM t day set cut (h + 1)).1, (dcM t day set cut (h + 1)).2, nI (h + 1)) := by
        intro s0 h0
        unfold f_X7_strike_122 f_X7_strike_168
        simp only [mw_eq, nI_succ]
        by_cases q : set.testBit h = true
        · rw [if_neg (fun w => by rw [(n_bit0 set (by omega)).mp w] at q; cases q), dcM_f q, h0]
        · rw [if_pos ((n_bit0 set (by omega)).mpr (by cases y : set.testBit h; rfl; exact absurd y q)), mj_ck_t (bb_4 (by omega)), nI_clamp (by omega), x_corner gz hh]
          by_cases r : cut.testBit (t 0 h) = true
          · rw [if_neg (fun w => by rw [(n_bit0 cut (by omega)).mp w] at r; cases r), dcM_c q r, h0]
          · rw [if_pos ((n_bit0 cut (by omega)).mpr (by cases y : cut.testBit (t 0 h); rfl; exact absurd y r)), dcM_n q r]
      show f_X7_strike_86 N v2 (nI set) (nI cut) (mj_wI m 1 15 z) κ ((dcM t day set cut h).1, (dcM t day set cut h).2, nI h) = _
      unfold f_X7_strike_86
      dsimp only
      rw [x_houses gz, if_neg (nI_ge hh (by omega))]
      cases day
      · rw [if_pos (show v2 = 0 by rw [hv]; rfl), mj_ck_t (bb_4 (by omega)), nI_clamp (by omega), x_night gz hh]; exact main _ rfl
      · rw [if_neg (show ¬ v2 = 0 by rw [hv]; decide), mj_ck_t (bb_4 (by omega)), nI_clamp (by omega), x_day gz hh]; exact main _ rfl
    · unfold f_X7_strike_86
      dsimp only
      rw [x_houses gz, if_pos (nI_le (by omega) (by omega)), x_shut gz]
  have falls : ∀ (day : Bool) (v2 : Int32), v2 = (if day = true then 1 else 0) → mj_lp N (f_X7_strike_24 N (nI k) v2) (0, 0, mj_wI m 1 15 (drS x)) = some ((dcM t day (flM t k (drS x) (t 13 1)).1 (cutN t (shuN t (flM t k (drS x) (t 13 1)).1 (t 13 1))) (t 13 1)).1 + (dcM t day (flM t k (drS x) (t 13 1)).1 (cutN t (shuN t (flM t k (drS x) (t 13 1)).1 (t 13 1))) (t 13 1)).2 * nI (t 13 4) / 10, mj_wI m 1 15 (flM t k (drS x) (t 13 1)).2) := by
    intro day v2 hv
    refine lp_for (fun h => (nI (flM t k (drS x) h).1, nI h, mj_wI m 1 15 (flM t k (drS x) h).2)) (c := t 13 1) (by omega) (fun h hh κ => ?_) (fun κ => ?_)
    · have gz := g_seed8 hG g (flM t k (drS x) h).2
      have gy := g_seed8 hG g (drS (flM t k (drS x) h).2)
      unfold f_X7_strike_24 f_X7_strike_60
      dsimp only
      rw [x_houses gz, if_neg (nI_ge hh (by omega)), draw8 N (by decide) (by decide), bind_some']
      dsimp only
      rw [tenths8 hG gy (St5 hG gy) hh hk, bind_some']
      simp only [mw_eq, nI_succ]
      show _ = κ (nI (if nI (fN t (t 7) h k) ≤ drV 10 (drS (flM t k (drS x) h).2) then (flM t k (drS x) h).1 else (flM t k (drS x) h).1 ||| 2 ^ h), nI h + 1, mj_wI m 1 15 (drS (flM t k (drS x) h).2))
      by_cases q : nI (fN t (t 7) h k) ≤ drV 10 (drS (flM t k (drS x) h).2)
      · rw [if_pos q, if_pos q]
      · rw [if_neg q, if_neg q, n_shl h (by omega), n_or]
    · have gz := g_seed8 hG g (flM t k (drS x) (t 13 1)).2
      unfold f_X7_strike_24
      dsimp only
      rw [x_houses gz, if_pos (nI_le (by omega) (by omega)), shut8 hG gz _ hN, bind_some', cut8 hG gz _ hN, bind_some', count day v2 _ _ _ hv]
  have gy := g_seed8 hG g (drS x)
  unfold f_X7_strike f_X7_strike_18
  rw [draw8 N (by decide) (by decide), bind_some']
  dsimp only
  rw [x_daypart gy]
  unfold stM
  by_cases q : nI (t 13 5) ≤ drV 10 (drS x)
  · rw [if_pos q, falls false 0 rfl, show dyB t x = false from decide_eq_false (fun z => z q)]
  · rw [if_neg q, falls true 1 rfl, show dyB t x = true from decide_eq_true q]
theorem min99 {a b : Nat} (ha : a ≤ 99) (hb : b ≤ 2) : (if nI a + nI b < 99 then nI a + nI b else 99) = nI (min 99 (a + b)) ∧ (if nI a + nI b ≤ 99 then nI a + nI b else 99) = nI (min 99 (a + b)) := by
  rw [nI_plus]
  rcases Nat.lt_or_ge (a + b) 99 with q | q
  · rw [if_pos (show nI (a + b) < 99 from (nI_lt q (by omega) : nI (a + b) < nI 99)), if_pos (show nI (a + b) ≤ 99 from (nI_le (by omega) (by omega) : nI (a + b) ≤ nI 99)), Nat.min_eq_right (by omega)]; exact ⟨rfl, rfl⟩
  · rw [if_neg (show ¬ nI (a + b) < 99 from (nI_nlt q (by omega) : ¬ nI (a + b) < nI 99)), Nat.min_eq_left q]
    refine ⟨rfl, ?_⟩
    rcases Nat.lt_or_ge 99 (a + b) with r | r
    · rw [if_neg (show ¬ nI (a + b) ≤ 99 from (nI_ge r (by omega) : ¬ nI (a + b) ≤ nI 99))]; rfl
    · rw [show a + b = 99 by omega]; rfl
theorem o2h {h : Nat} (hh : h < 10) : True := trivial
theorem end8 {m : mj_m} {t : aT} {u : Nat → Int32} (hG : Good t) (g : Rep (cg m 1 8) t u) {N : Nat} (hN : 20 ≤ N) : ∃ m', f_X7_endYear N m = some m' ∧ Rep (cg m' 1 8) (eY t) (fun i => if i = 1 then u 1 + 1 else u i) ∧ (∀ a k, ¬ okC a k → m'.1 a k = m.1 a k) ∧ m'.2 = m.2 ∧ (RB m → RB m') := by
  have gh := GH hG
  obtain ⟨s, ⟨-, e2, e3, e4, e6⟩, e5⟩ := lp_cnt (B := f_X7_endYear_2 N) (E := fun s => some (mj_wI s.2 1 13 ((s.2.1 1 13) + 1))) (c := t 13 1) (N := N) (s0 := ((0 : Int32), m)) (fun i s => s.1 = nI i ∧ (∀ h, h < t 13 1 → s.2.1 (8 + h) 2 = nI (if h < i then eY t 2 h else t 2 h) ∧ s.2.1 (8 + h) 3 = nI (if h < i then eY t 3 h else t 3 h) ∧ s.2.1 (8 + h) 7 = nI (if h < i then 0 else t 8 h)) ∧ (∀ a k, ¬ ((8 ≤ a ∧ a < 18) ∧ (k = 2 ∨ k = 3 ∨ k = 7)) → s.2.1 a k = m.1 a k) ∧ s.2.2 = m.2 ∧ (RB m → RB s.2)) (by omega)
    ⟨rfl, fun h hh => by rw [if_neg (by omega), if_neg (by omega), if_neg (by omega)]; exact ⟨x_day g hh, x_night g hh, x_prop g hh⟩, fun _ _ _ => rfl, rfl, id⟩
    (fun i s hi ⟨e1, e2, e3, e4, e6⟩ => by
      obtain ⟨a2, a3, a8⟩ := e2 i hi
      rw [if_neg (by omega)] at a2 a3 a8
      have vh : s.2.1 1 7 = nI (t 13 1) := (e3 1 7 (by omega)).trans (x_houses g)
      have vs : s.2.1 5 i = nI (t 7 i) := (e3 5 i (by omega)).trans (x_steps g hi)
      obtain ⟨-, -, b2, b3, -, -, -, b7, -⟩ := hG.2.1 i hi
      refine ⟨(nI (i + 1), mj_wI (mj_wI (mj_wI s.2 (8 + i) 2 (nI (eY t 2 i))) (8 + i) 3 (nI (eY t 3 i))) (8 + i) 7 0), ⟨rfl, fun h hh => ?_, fun a k q => by rw [wI_n (by omega), wI_n (by omega), wI_n (by omega)]; exact e3 a k q, e4, fun z => RB_wX (RB_wX (RB_wX (e6 z) (by omega)) (by omega)) (fun _ _ _ => Or.inl rfl)⟩, fun κ => ?_⟩
      · by_cases y : h = i
        · rw [y, if_pos (by omega), if_pos (by omega), if_pos (by omega)]
          exact ⟨by rw [wI_n (by omega), wI_n (by omega), wI_e], by rw [wI_n (by omega), wI_e], by rw [wI_e]; rfl⟩
        · obtain ⟨c2, c3, c8⟩ := e2 h hh
          rw [wI_n (by omega), wI_n (by omega), wI_n (by omega), wI_n (by omega), wI_n (by omega), wI_n (by omega), wI_n (by omega), wI_n (by omega), wI_n (by omega), c2, c3, c8]
          by_cases y2 : h < i
          · rw [if_pos y2, if_pos y2, if_pos y2, if_pos (by omega), if_pos (by omega), if_pos (by omega)]; exact ⟨rfl, rfl, rfl⟩
          · rw [if_neg y2, if_neg y2, if_neg y2, if_neg (by omega), if_neg (by omega), if_neg (by omega)]; exact ⟨rfl, rfl, rfl⟩
      · unfold f_X7_endYear_2
        rw [e1, vh, if_neg (nI_ge hi (by omega)), mj_ck_t (bb_4 (by omega)), mj_ck_t (bb_5 (by omega)), nI_clamp (by omega), a2, vs, (min99 b2 b7).1]
        simp only [mw_eq]
        rw [wI_n (by omega), wI_n (by omega), a3, vs, (min99 b3 b7).1, nI_succ]
        rfl)
    (fun s ⟨e1, _, e3, _⟩ κ => by
      have vh : s.2.1 1 7 = nI (t 13 1) := (e3 1 7 (by omega)).trans (x_houses g)
      unfold f_X7_endYear_2
      rw [e1, vh, if_pos (nI_le (by omega) (by omega)), mw_eq])
  refine ⟨_, e5, ?_, fun a k q => ?_, e4, fun z => RB_wX (e6 z) (by omega)⟩
  · have r := Rep_cX (m' := mj_wI s.2 1 13 (s.2.1 1 13 + 1)) (t' := eY t) hG g (fun a k q1 q2 q3 q4 => by
      rw [wI_n (by omega)]; exact e3 a k (by omega)) (fun f f2 f3 _ f8 => eY_o t f2 f3 f8) (fun h hh => by
      obtain ⟨c2, c3, c8⟩ := e2 h hh
      rw [if_pos hh] at c2 c3 c8
      refine ⟨?_, ?_, ?_, ?_⟩
      · rw [wI_n (by omega)]; exact c2
      · rw [wI_n (by omega)]; exact c3
      · rw [wI_n (by omega), e3 5 h (by omega), eY_o t (f := 7) (by decide) (by decide) (by decide)]; exact x_steps g hh
      · rw [wI_n (by omega)]; exact c8)
    obtain ⟨r1, r2, r3⟩ := r
    refine ⟨r1, fun i hi => ?_, r3⟩
    rw [r2 i hi]
    dsimp only
    rcases (by omega : i = 0 ∨ i = 1 ∨ i = 2 ∨ i = 3) with rfl | rfl | rfl | rfl
    · rw [if_neg (by decide), wI_n (by omega), e3 1 (12 + 0) (by omega)]; exact x_purse g
    · rw [if_pos rfl, wI_e, e3 1 13 (by omega), x_year g]
    · rw [if_neg (by decide), wI_n (by omega), e3 1 (12 + 2) (by omega)]; exact x_gone g
    · rw [if_neg (by decide), wI_n (by omega), e3 1 (12 + 3) (by omega)]; exact x_seed g
  · unfold okC at q
    rw [wI_n (by omega)]; exact e3 a k (by omega)
