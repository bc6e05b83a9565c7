/-! ORDERS by keys: the keys of a kind; the reference's insertion -/
def plN (e : Nat → Int32) (h : Nat) : Nat → Nat
  | 0 => 120
  | n + 1 => if plN e h n < 120 then plN e h n else if e n = nI h then n else 120
theorem plN_cases (e : Nat → Int32) (h : Nat) : ∀ n, n ≤ 120 → (plN e h n < n ∧ e (plN e h n) = nI h ∧ ∀ j, j < plN e h n → e j ≠ nI h) ∨ (plN e h n = 120 ∧ ∀ j, j < n → e j ≠ nI h) := by
  intro n
  induction n with
  | zero => intro _; exact Or.inr ⟨rfl, fun j hj => absurd hj (Nat.not_lt_zero j)⟩
  | succ n ih =>
    intro hn
    unfold plN
    rcases ih (by omega) with ⟨h1, h2, h3⟩ | ⟨h1, h2⟩
    · rw [if_pos (by omega)]; exact Or.inl ⟨by omega, h2, h3⟩
    · rw [if_neg (by omega)]
      by_cases q : e n = nI h
      · rw [if_pos q]; exact Or.inl ⟨by omega, q, h2⟩
      · rw [if_neg q]
        refine Or.inr ⟨rfl, fun j hj => ?_⟩
        by_cases y : j = n
        · rw [y]; exact q
        · exact h2 j (by omega)
def kyN (t : aT) (k : Nat) (e : Nat → Int32) (n h : Nat) : Int := if k = 1 then (pyN t h : Int) else if k = 2 then (t 1 h : Int) - ((4 * t 7 h : Nat) : Int) else if k = 3 then ((pyN t h + (if t 5 h = 0 then 0 else 10000) : Nat) : Int) else if k = 5 then (t 1 h : Int) - ((4 * t 7 h + (if t 8 h = 0 then 0 else 100) : Nat) : Int) else if k = 6 then -(plN e h n : Int) else 0
theorem fr_none {a : Nat} (ha : a < 1000) : nI a - 1 = -1 ↔ a = 0 := by
  rw [← Int32.toInt_inj, p_toInt ha]
  have : (-1 : Int32).toInt = -1 := by decide
  omega
theorem place8 {m : mj_m} {s n : Nat} (hs : s < 8) (hn : n ≤ 120) (hz : m.1 (79 + 2 * s) 2 = nI n) {e : Nat → Int32} (he : ∀ i, i < n → (m.2 (80 + 2 * s) i).toInt32 = e i) (h : Nat) {N : Nat} (hN : 200 ≤ N) : f_X3_placeOf N (79 + 2 * s) (nI h) m = some (nI (plN e h n)) := by
  have go : ∀ i, i < n → e i ≠ nI h → ∀ k : Int32 → Option Int32, f_X3_placeOf_2 N (79 + 2 * s) (nI h) m k (nI i) = k (nI (i + 1)) := by
    intro i hi hne k
    unfold f_X3_placeOf_2
    rw [mj_ck_t (o6 hs), hz, if_neg (nI_ge hi (by omega)), as8 hs hz hn hi, bind_some', he i hi, if_neg hne, mw_eq, nI_succ]
  unfold f_X3_placeOf
  rcases plN_cases e h n hn with ⟨h1, h2, h3⟩ | ⟨h1, h2⟩
  · refine lp_for nI (c := plN e h n) (by omega) (fun i hi k => go i (by omega) (h3 i hi) k) (fun k => ?_)
    unfold f_X3_placeOf_2
    rw [mj_ck_t (o6 hs), hz, if_neg (nI_ge h1 (by omega)), as8 hs hz hn h1, bind_some', he _ h1, if_pos h2]
  · rw [h1]
    refine lp_for nI (c := n) (by omega) (fun i hi k => go i hi (h2 i hi) k) (fun k => ?_)
    unfold f_X3_placeOf_2
    rw [mj_ck_t (o6 hs), hz, if_pos (nI_le (Nat.le_refl _) (by omega))]
    rfl
theorem people8 {m : mj_m} {t : aT} {u : Nat → Int32} (hG : Good t) (g : Rep (cg m 1 8) t u) {h : Nat} (hh : h < t 13 1) (N : Nat) : f_X3_peopleOf N (8 + h) m = some (nI (pyN t h)) := by
  have gh := GH hG
  have h5 := hG.1.2.2.2.2.2
  unfold f_X3_peopleOf
  rw [mj_ck_t (mj_hs4_all h (by omega)).2, x_daypart g, x_day g hh, x_night g hh, ten_sub h5, nI_mul, nI_mul, nI_add]
  rfl
theorem people9 {m : mj_m} {t : aT} {u : Nat → Int32} (hG : Good t) (g : Rep (mg m) t u) {h : Nat} (hh : h < t 13 1) (N : Nat) : f_X9_people N (nI h) 2 m = some (nI (pyN t h)) := by
  have gh := GH hG
  have h5 := hG.1.2.2.2.2.2
  unfold f_X9_people
  rw [if_neg (by decide), if_neg (by decide), mj_ck_t (bb_103 (by omega)), mj_ck_t (bb_104 (by omega)), nI_clamp (by omega), y_daypart g, y_day g hh, y_night g hh, ten_sub h5, nI_mul, nI_mul, nI_add]
  rfl
theorem wk_I (a b : Nat) : nI a - 4 * nI b = nI a - nI (4 * b) := by rw [show (4 : Int32) = nI 4 from rfl, nI_mul]
theorem key8 {m : mj_m} {t : aT} {u : Nat → Int32} (hG : Good t) (g : Rep (cg m 1 8) t u) {s k : Nat} (hs : s < 8) (h7 : k < 7) (h1 : m.1 (79 + 2 * s) 1 = nI k) (h4 : k ≠ 4) {e : Nat → Int32} {n : Nat} (hn : n ≤ 120) (h6 : k = 6 → m.1 (79 + 2 * s) 2 = nI n ∧ ∀ i, i < n → (m.2 (80 + 2 * s) i).toInt32 = e i) {h : Nat} (hh : h < t 13 1) {N : Nat} (hN : 200 ≤ N) : ∃ x, f_X3_keyOf N (79 + 2 * s) (nI h) m = some x ∧ x.toInt = kyN t k e n h := by
  have gh := GH hG
  have gS := GS hG
  obtain ⟨-, w1, -, -, -, w5, -, w7, w8⟩ := hG.2.1 h hh
  have py := pyN_le hG hh
  unfold f_X3_keyOf
  rw [mj_ck_t (bb_4 (by omega)), mj_ck_t (o6 hs), h1, nI_clamp (by omega)]
  rcases (by omega : k = 0 ∨ k = 1 ∨ k = 2 ∨ k = 3 ∨ k = 5 ∨ k = 6) with rfl | rfl | rfl | rfl | rfl | rfl
  · rw [if_neg (show ¬ nI 0 = 1 by decide), if_neg (show ¬ nI 0 = 2 by decide), if_neg (show ¬ nI 0 = 3 by decide), if_neg (show ¬ nI 0 = 4 by decide), if_neg (show ¬ nI 0 = 5 by decide), if_neg (show ¬ nI 0 = 6 by decide)]
    exact ⟨0, rfl, rfl⟩
  · rw [if_pos (show nI 1 = 1 by decide), people8 hG g hh]
    exact ⟨_, rfl, nI_toInt (by omega)⟩
  · rw [if_neg (show ¬ nI 2 = 1 by decide), if_pos (show nI 2 = 2 by decide), mj_ck_t (bb_5 (by omega)), x_weak g hh, x_steps g hh, wk_I]
    exact ⟨_, rfl, nI_subI (by omega) (by omega)⟩
  · rw [if_neg (show ¬ nI 3 = 1 by decide), if_neg (show ¬ nI 3 = 2 by decide), if_pos (show nI 3 = 3 by decide), people8 hG g hh, bind_some', x_front g hh]
    by_cases y : t 5 h = 0
    · rw [if_pos ((fr_none (by omega)).mpr y)]
      refine ⟨_, rfl, ?_⟩
      show (nI (pyN t h) + 0).toInt = ((pyN t h + (if t 5 h = 0 then 0 else 10000) : Nat) : Int)
      rw [if_pos y, Int32.add_zero, nI_toInt (by omega)]; rfl
    · rw [if_neg (fun z => y ((fr_none (by omega)).mp z))]
      refine ⟨_, rfl, ?_⟩
      show (nI (pyN t h) + 10000).toInt = ((pyN t h + (if t 5 h = 0 then 0 else 10000) : Nat) : Int)
      rw [if_neg y, show (10000 : Int32) = nI 10000 from rfl, nI_add, nI_toInt (by omega)]
  · rw [if_neg (show ¬ nI 5 = 1 by decide), if_neg (show ¬ nI 5 = 2 by decide), if_neg (show ¬ nI 5 = 3 by decide), if_neg (show ¬ nI 5 = 4 by decide), if_pos (show nI 5 = 5 by decide), mj_ck_t (bb_5 (by omega)), x_weak g hh, x_steps g hh, x_prop g hh, wk_I]
    by_cases y : t 8 h = 0
    · rw [if_pos (by rw [y]; rfl)]
      refine ⟨_, rfl, ?_⟩
      show (nI (t 1 h) - nI (4 * t 7 h) - 0).toInt = (t 1 h : Int) - ((4 * t 7 h + (if t 8 h = 0 then 0 else 100) : Nat) : Int)
      rw [if_pos y, Int32.sub_zero, nI_subI (by omega) (by omega)]; rfl
    · rw [if_neg (by rw [show t 8 h = 1 by omega]; decide)]
      refine ⟨_, rfl, ?_⟩
      show (nI (t 1 h) - nI (4 * t 7 h) - 100).toInt = (t 1 h : Int) - ((4 * t 7 h + (if t 8 h = 0 then 0 else 100) : Nat) : Int)
      rw [if_neg y, show nI (t 1 h) - nI (4 * t 7 h) - 100 = nI (t 1 h) - nI (4 * t 7 h + 100) by rw [← nI_add, show (100 : Int32) = nI 100 from rfl]; grind, nI_subI (by omega) (by omega)]
  · obtain ⟨z1, z2⟩ := h6 rfl
    rw [if_neg (show ¬ nI 6 = 1 by decide), if_neg (show ¬ nI 6 = 2 by decide), if_neg (show ¬ nI 6 = 3 by decide), if_neg (show ¬ nI 6 = 4 by decide), if_neg (show ¬ nI 6 = 5 by decide), if_pos (show nI 6 = 6 by decide), place8 hs hn z1 z2 h hN]
    refine ⟨_, rfl, ?_⟩
    show (-(nI (plN e h n))).toInt = -(plN e h n : Int)
    have pb : plN e h n ≤ 120 := by rcases plN_cases e h n hn with z | z <;> omega
    rw [show -(nI (plN e h n)) = nI 0 - nI (plN e h n) by rw [nI_0]; grind, nI_subI (by omega) (by omega)]; omega
/-- the reference: who is ahead -/
def b2I (b : Bool) : Int32 := if b = true then 1 else 0
theorem leI {x y : Int32} : x ≤ y ↔ ¬ y.toInt < x.toInt := by rw [Int32.le_iff_toInt_le]; omega
theorem ah64 {m : mj_m} {t : aT} {u : Nat → Int32} (hG : Good t) (g : Rep (mg m) t u) {h x : Nat} (hh : h < t 13 1) (hx : x < t 13 1) (N : Nat) : f_X9_isAhead_64 N (nI h) (nI x) m = some (b2I (decide (pyN t x < pyN t h))) := by
  have p1 := pyN_le hG hh
  have p2 := pyN_le hG hx
  unfold f_X9_isAhead_64 b2I
  rw [people9 hG g hh, bind_some', people9 hG g hx, bind_some']
  by_cases y : pyN t x < pyN t h
  · rw [if_neg (nI_ge y (by omega)), if_pos (decide_eq_true y)]
  · rw [if_pos (nI_le (by omega) (by omega)), if_neg (by rw [decide_eq_false y]; decide)]
theorem ah130 {m : mj_m} {t : aT} {u : Nat → Int32} (hG : Good t) (g : Rep (mg m) t u) {h x : Nat} (hh : h < t 13 1) (hx : x < t 13 1) (N : Nat) : f_X9_isAhead_130 N (nI h) (nI x) m = some (b2I (decide ((t 1 x : Int) - ((4 * t 7 x : Nat) : Int) < (t 1 h : Int) - ((4 * t 7 h : Nat) : Int)))) := by
  have gh := GH hG
  obtain ⟨-, w1, -, -, -, -, -, w7, -⟩ := hG.2.1 h hh
  obtain ⟨-, v1, -, -, -, -, -, v7, -⟩ := hG.2.1 x hx
  unfold f_X9_isAhead_130 f_X9_isAhead_167 b2I
  rw [mj_ck_t (bb_102 (by omega)), mj_ck_t (bb_108 (by omega)), mj_ck_t (bb_102 (by omega)), mj_ck_t (bb_108 (by omega)), nI_clamp (show h < 2 ^ 31 by omega), nI_clamp (show x < 2 ^ 31 by omega), y_weak g hh, y_weak g hx, y_steps g hh, y_steps g hx, wk_I, wk_I]
  by_cases y : (t 1 x : Int) - ((4 * t 7 x : Nat) : Int) < (t 1 h : Int) - ((4 * t 7 h : Nat) : Int)
  · rw [if_neg (by rw [leI, nI_subI (by omega) (by omega), nI_subI (by omega) (by omega)]; omega), if_pos (decide_eq_true y)]
  · rw [if_pos (by rw [leI, nI_subI (by omega) (by omega), nI_subI (by omega) (by omega)]; exact y), if_neg (by rw [decide_eq_false y]; decide)]
theorem ahead9 {m : mj_m} {t : aT} {u : Nat → Int32} (hG : Good t) (g : Rep (mg m) t u) {k : Nat} (h7 : k < 7) (h4 : k ≠ 4) (h6 : k ≠ 6) (e : Nat → Int32) (n : Nat) {h x : Nat} (hh : h < t 13 1) (hx : x < t 13 1) (N : Nat) : f_X9_isAhead N (nI k) (nI h) (nI x) m = some (b2I (akB (kyN t k e n) h x)) := by
  have gh := GH hG
  have gS := GS hG
  obtain ⟨-, w1, -, -, -, w5, -, w7, w8⟩ := hG.2.1 h hh
  obtain ⟨-, v1, -, -, -, v5, -, v7, v8⟩ := hG.2.1 x hx
  have p1 := pyN_le hG hh
  have p2 := pyN_le hG hx
  rcases (by omega : k = 0 ∨ k = 1 ∨ k = 2 ∨ k = 3 ∨ k = 5) with rfl | rfl | rfl | rfl | rfl
  · unfold f_X9_isAhead f_X9_isAhead_54 f_X9_isAhead_120 f_X9_isAhead_167
    rw [if_neg (show ¬ nI 0 = 3 by decide), if_neg (show ¬ nI 0 = 1 by decide), if_neg (show ¬ nI 0 = 3 by decide), if_neg (show ¬ nI 0 = 5 by decide), if_neg (show ¬ nI 0 = 2 by decide), if_neg (show ¬ nI 0 = 5 by decide)]
    rfl
  · unfold f_X9_isAhead f_X9_isAhead_54
    rw [if_neg (show ¬ nI 1 = 3 by decide), if_pos (show nI 1 = 1 by decide), ah64 hG g hh hx]
    have : akB (kyN t 1 e n) h x = decide (pyN t x < pyN t h) := by
      unfold akB
      show decide ((pyN t x : Int) < (pyN t h : Int)) = _
      exact decide_eq_decide.mpr (by omega)
    rw [this]
  · unfold f_X9_isAhead f_X9_isAhead_54 f_X9_isAhead_120
    rw [if_neg (show ¬ nI 2 = 3 by decide), if_neg (show ¬ nI 2 = 1 by decide), if_neg (show ¬ nI 2 = 3 by decide), if_neg (show ¬ nI 2 = 5 by decide), if_pos (show nI 2 = 2 by decide), ah130 hG g hh hx]
    rfl
  · have f1 := y_front g hh
    have f2 := y_front g hx
    unfold f_X9_isAhead f_X9_isAhead_20 f_X9_isAhead_35 f_X9_isAhead_54
    rw [if_pos (show nI 3 = 3 by decide), mj_ck_t (bb_106 (by omega)), mj_ck_t (bb_106 (by omega)), mj_ck_t (bb_106 (by omega)), mj_ck_t (bb_106 (by omega)), nI_clamp (show h < 2 ^ 31 by omega), nI_clamp (show x < 2 ^ 31 by omega), f1, f2, if_neg (show ¬ nI 3 = 1 by decide), if_pos (show nI 3 = 3 by decide), ah64 hG g hh hx]
    have key : akB (kyN t 3 e n) h x = decide (pyN t x + (if t 5 x = 0 then 0 else 10000) < pyN t h + (if t 5 h = 0 then 0 else 10000)) := by
      unfold akB
      show decide (((pyN t x + (if t 5 x = 0 then 0 else 10000) : Nat) : Int) < ((pyN t h + (if t 5 h = 0 then 0 else 10000) : Nat) : Int)) = _
      exact decide_eq_decide.mpr (by omega)
    rw [key]
    by_cases y1 : t 5 h = 0
    · rw [if_pos ((fr_none (by omega)).mpr y1)]
      by_cases y2 : t 5 x = 0
      · rw [if_pos ((fr_none (by omega)).mpr y2), if_pos rfl, if_pos y1, if_pos y2]; rfl
      · rw [if_neg (fun z => y2 ((fr_none (by omega)).mp z)), if_neg (by decide), if_pos ((fr_none (by omega)).mpr y1), if_pos y1, if_neg y2, decide_eq_false (by omega)]; rfl
    · rw [if_neg (fun z => y1 ((fr_none (by omega)).mp z))]
      by_cases y2 : t 5 x = 0
      · rw [if_pos ((fr_none (by omega)).mpr y2), if_neg (by decide), if_neg (fun z => y1 ((fr_none (by omega)).mp z)), if_neg y1, if_pos y2, decide_eq_true (by omega)]; rfl
      · rw [if_neg (fun z => y2 ((fr_none (by omega)).mp z)), if_pos rfl, if_neg y1, if_neg y2]
        exact congrArg (fun z => some (b2I z)) (decide_eq_decide.mpr (by omega))
  · unfold f_X9_isAhead f_X9_isAhead_54 f_X9_isAhead_120
    rw [if_neg (show ¬ nI 5 = 3 by decide), if_neg (show ¬ nI 5 = 1 by decide), if_neg (show ¬ nI 5 = 3 by decide), if_pos (show nI 5 = 5 by decide), if_neg (show ¬ nI 5 = 2 by decide), if_pos (show nI 5 = 5 by decide), ah130 hG g hh hx, mj_ck_t (bb_109 (by omega)), mj_ck_t (bb_109 (by omega)), nI_clamp (show h < 2 ^ 31 by omega), nI_clamp (show x < 2 ^ 31 by omega), y_prop g hh, y_prop g hx]
    have key : akB (kyN t 5 e n) h x = decide ((t 1 x : Int) - ((4 * t 7 x + (if t 8 x = 0 then 0 else 100) : Nat) : Int) < (t 1 h : Int) - ((4 * t 7 h + (if t 8 h = 0 then 0 else 100) : Nat) : Int)) := rfl
    rw [key]
    by_cases y1 : t 8 h = t 8 x
    · rw [if_pos (by rw [y1]), y1]
      exact congrArg (fun z => some (b2I z)) (decide_eq_decide.mpr (by split <;> omega))
    · rw [if_neg (fun z => y1 ((nI_eq (by omega) (by omega)).mp z))]
      by_cases y2 : t 8 h = 0
      · rw [if_pos (by rw [y2]; rfl), if_pos y2, if_neg (show ¬ t 8 x = 0 by omega), decide_eq_true (by omega)]; rfl
      · rw [if_neg (by rw [show t 8 h = 1 by omega]; decide), if_neg y2, if_pos (show t 8 x = 0 by omega), decide_eq_false (by omega)]; rfl
theorem n44 (k : Nat) : ¬ okA 123 k ∧ ¬ okA 95 44 := by unfold okA okN okC okM; omega
theorem ins9 {m : mj_m} {t : aT} {u : Nat → Int32} (hG : Good t) (g : Rep (mg m) t u) {s k : Nat} (hs : s < 8) (h7 : k < 7) (h4 : k ≠ 4) (h6 : k ≠ 6) (e : Nat → Int32) (n : Nat) (hk : m.1 113 s = nI k) {L : List Nat} {h : Nat} (hL : L.length < 10) (hx : ∀ x, x ∈ L → x < t 13 1) (hh : h < t 13 1) (hm : m.1 95 44 = nI L.length) (hr : Rw m 123 L) {N : Nat} (hN : 20 ≤ N) : ∃ m', Rw m' 123 (insA (akB (kyN t k e n)) h L) ∧ m'.1 95 44 = nI (insA (akB (kyN t k e n)) h L).length ∧ Eqs okA m m' ∧ ∀ κ : Int32 × mj_m → Option mj_m, mj_lp N (f_X9_orders_138 N κ (nI s) (nI h)) (nI L.length, m) = κ (nI (h + 1), m') := by
  have gh := GH hG
  generalize hah : akB (kyN t k e n) = ah
  have pl := posA_le ah h L L.length
  have ahd : ∀ m1 : mj_m, Eqs okA m m1 → ∀ x, x ∈ L → f_X9_isAhead N (nI k) (nI h) (nI x) m1 = some (b2I (ah h x)) := fun m1 e1 x xl => by
    rw [← hah]; exact ahead9 hG (RT_m hG g (fun a j q => e1.1 a j (Or.inr (Or.inr q)))) h7 h4 h6 e n hh (hx x xl) N
  obtain ⟨z, ⟨e1, e3, e4, e5, e6⟩, e7⟩ := lp_cntK (K := Int32 × mj_m → Option mj_m) (B := fun κ => f_X9_orders_138 N κ (nI s) (nI h)) (E := fun κ z => f_X9_orders_184 N κ (nI s) (nI h) z.1 z.2) (c := L.length - posA ah h L L.length) (N := N) (s0 := (nI L.length, m)) (fun d z => z.1 = nI (L.length - d) ∧ (∀ j, j < L.length - d → z.2.1 123 j = nI (gd L j)) ∧ (∀ j, L.length - d < j → j ≤ L.length → z.2.1 123 j = nI (gd L (j - 1))) ∧ Eqs okA m z.2 ∧ z.2.1 95 44 = nI L.length) (by omega)
    ⟨rfl, fun j hj => hr j (by omega), fun j h1 h2 => by omega, Eqs_r _ _, hm⟩
    (fun d z hd ⟨e1, e3, e4, e5, e6⟩ => by
      obtain ⟨i, hi⟩ : ∃ i, L.length - d = i + 1 := ⟨L.length - d - 1, by omega⟩
      have hi' : L.length - (d + 1) = i := by omega
      rw [hi] at e1 e3 e4
      have gm := gd_mem (L := L) (i := i) (by omega)
      have ahead := posA_hi ah h L L.length (i + 1) (by omega) (by omega)
      rw [show i + 1 - 1 = i by omega] at ahead
      refine ⟨(nI i, mj_wI z.2 123 (i + 1) (nI (gd L i))), ⟨by rw [hi'], fun j hj => ?_, fun j h1 h2 => ?_, Eqs_w e5 (n44 _).1, by rw [wI_n (by omega)]; exact e6⟩, fun κ k' => ?_⟩
      · rw [wI_n (by omega)]; exact e3 j (by omega)
      · by_cases y : j = i + 1
        · rw [y, wI_e, show i + 1 - 1 = i by omega]
        · rw [wI_n (by omega)]; exact e4 j (by omega) h2
      · unfold f_X9_orders_138
        rw [e1, nI_pred, if_neg (show ¬ nI (i + 1) ≤ 0 from (nI_ge (by omega) (by omega) : ¬ nI (i + 1) ≤ nI 0)), mj_ck_t (bb_113 hs), mj_ck_t (bb_123 (by omega)), nI_clamp (show s < 2 ^ 31 by omega), nI_clamp (show i < 2 ^ 31 by omega), e5.1 113 s (by unfold okA okN; omega), hk, e3 i (by omega), ahd z.2 e5 _ gm, bind_some', ahead, if_neg (by decide), mj_ck_t (bb_123 (by omega)), nI_clamp (show i + 1 < 2 ^ 31 by omega), mw_eq, mw_eq, m1_sub, nI_pred])
    (fun z ⟨e1, e3, e4, e5, e6⟩ κ k' => by
      rw [show L.length - (L.length - posA ah h L L.length) = posA ah h L L.length by omega] at e1 e3 e4
      unfold f_X9_orders_138
      rcases posA_lo ah h L L.length with y | y
      · rw [e1, y, if_pos (by decide)]
      · by_cases q : posA ah h L L.length = 0
        · rw [e1, q, if_pos (by decide)]
        · obtain ⟨i, hi⟩ : ∃ i, posA ah h L L.length = i + 1 := ⟨posA ah h L L.length - 1, by omega⟩
          rw [hi, show i + 1 - 1 = i by omega] at y
          have gm := gd_mem (L := L) (i := i) (by omega)
          rw [e1, hi, nI_pred, if_neg (show ¬ nI (i + 1) ≤ 0 from (nI_ge (by omega) (by omega) : ¬ nI (i + 1) ≤ nI 0)), mj_ck_t (bb_113 hs), mj_ck_t (bb_123 (by omega)), nI_clamp (show s < 2 ^ 31 by omega), nI_clamp (show i < 2 ^ 31 by omega), e5.1 113 s (by unfold okA okN; omega), hk, e3 i (by omega), ahd z.2 e5 _ gm, bind_some', y, if_pos (by rfl)])
  rw [show L.length - (L.length - posA ah h L L.length) = posA ah h L L.length by omega] at e1 e3 e4
  refine ⟨mj_wI (mj_wI z.2 123 (posA ah h L L.length) (nI h)) 95 44 (nI (L.length + 1)), fun i hi => ?_, ?_, Eqs_w (Eqs_w e5 (n44 _).1) (n44 0).2, fun κ => ?_⟩
  · rw [wI_n (by omega)]; exact Rw_ins pl e3 e4 i hi
  · rw [insA_len, wI_e]
  · rw [e7]
    unfold f_X9_orders_184 f_X9_orders_201
    rw [e1, mj_ck_t (bb_123 (by omega)), nI_clamp (by omega), mw_eq, mw_eq, mw_eq, wI_n (by omega), e6, nI_succ, nI_succ]
/-- the reference's order, by keys -/
theorem ordI9 {m : mj_m} {t : aT} {u : Nat → Int32} (hG : Good t) (g : Rep (mg m) t u) {s k : Nat} (hs : s < 8) (h7 : k < 7) (h4 : k ≠ 4) (h6 : k ≠ 6) (e : Nat → Int32) (n : Nat) (hk : m.1 113 s = nI k) {N : Nat} (hN : 20 ≤ N) : ∃ m', f_X9_orders N (nI s) m = some m' ∧ Rw m' 123 (ordA (akB (kyN t k e n)) t (t 13 1)) ∧ m'.1 95 44 = nI (ordA (akB (kyN t k e n)) t (t 13 1)).length ∧ Eqs okA m m' := by
  have gh := GH hG
  unfold f_X9_orders
  rw [mw_eq, mj_ck_t (bb_113 hs), nI_clamp (by omega), wI_n (by omega), hk, if_neg (ne4 (by omega) h4), if_neg (ne6 (by omega) h6)]
  obtain ⟨z, ⟨-, e2, e3, e4⟩, e5⟩ := lp_cnt (B := f_X9_orders_112 N (nI s)) (E := fun z => some z.2) (c := t 13 1) (N := N) (s0 := (0, mj_wI m 95 44 0)) (fun i z => z.1 = nI i ∧ Rw z.2 123 (ordA (akB (kyN t k e n)) t i) ∧ z.2.1 95 44 = nI (ordA (akB (kyN t k e n)) t i).length ∧ Eqs okA m z.2) (by omega)
    ⟨rfl, fun i hi => absurd hi (Nat.not_lt_zero i), wI_e, Eqs_w (Eqs_r _ _) (n44 0).2⟩
    (fun i z hi ⟨e1, e2, e3, e4⟩ => by
      have gs := RT_m hG g (fun a j q => e4.1 a j (Or.inr (Or.inr q)))
      have sl := st_le hG hi
      have ol := ordA_len (akB (kyN t k e n)) t i
      by_cases q : t 7 i = 2
      · refine ⟨(nI (i + 1), z.2), ⟨rfl, by rw [ordA_s, if_pos q]; exact e2, by rw [ordA_s, if_pos q]; exact e3, e4⟩, fun k' => ?_⟩
        unfold f_X9_orders_112 f_X9_orders_201
        rw [y_houses gs, e1, if_neg (nI_ge hi (by omega)), mj_ck_t (bb_108 (by omega)), nI_clamp (by omega), y_steps gs hi, q, if_pos (by rfl), mw_eq, nI_succ]
      · obtain ⟨m', r1, r2, r3, r4⟩ := ins9 hG gs hs h7 h4 h6 e n (by rw [e4.1 113 s (by unfold okA okN; omega)]; exact hk) (L := ordA (akB (kyN t k e n)) t i) (h := i) (by omega) (fun x hx => by have := ((ordA_mem _ _ _ _).mp hx).1; omega) hi e3 e2 hN
        refine ⟨(nI (i + 1), m'), ⟨rfl, by rw [ordA_s, if_neg q]; exact r1, by rw [ordA_s, if_neg q]; exact r2, Eqs_t e4 r3⟩, fun k' => ?_⟩
        unfold f_X9_orders_112
        rw [y_houses gs, e1, if_neg (nI_ge hi (by omega)), mj_ck_t (bb_108 (by omega)), nI_clamp (by omega), y_steps gs hi, if_neg (ne2 (by omega) q), mw_eq, e3]
        exact r4 k')
    (fun z ⟨e1, _, _, e4⟩ k' => by
      have gs := RT_m hG g (fun a j q => e4.1 a j (Or.inr (Or.inr q)))
      unfold f_X9_orders_112
      rw [y_houses gs, e1, if_pos (nI_le (by omega) (by omega))])
  exact ⟨z.2, e5, e2, e3, e4⟩
