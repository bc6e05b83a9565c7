/-! EITHER SIDE'S TOWN BY ITSELF: what the cells hold -/
theorem x_streets {m : mj_m} {t : aT} {u : Nat → Int32} (h : Rep (cg m 1 8) t u) : m.1 1 6 = nI (t 13 0) := h.1 0 (by decide)
theorem y_streets {m : mj_m} {t : aT} {u : Nat → Int32} (h : Rep (mg m) t u) : m.1 95 0 = nI (t 13 0) := h.1 0 (by decide)
theorem x_houses {m : mj_m} {t : aT} {u : Nat → Int32} (h : Rep (cg m 1 8) t u) : m.1 1 7 = nI (t 13 1) := h.1 1 (by decide)
theorem y_houses {m : mj_m} {t : aT} {u : Nat → Int32} (h : Rep (mg m) t u) : m.1 95 1 = nI (t 13 1) := h.1 1 (by decide)
theorem x_shakes {m : mj_m} {t : aT} {u : Nat → Int32} (h : Rep (cg m 1 8) t u) : m.1 1 8 = nI (t 13 2) := h.1 2 (by decide)
theorem y_shakes {m : mj_m} {t : aT} {u : Nat → Int32} (h : Rep (mg m) t u) : m.1 95 2 = nI (t 13 2) := h.1 2 (by decide)
theorem x_coin {m : mj_m} {t : aT} {u : Nat → Int32} (h : Rep (cg m 1 8) t u) : m.1 1 9 = nI (t 13 3) := h.1 3 (by decide)
theorem y_coin {m : mj_m} {t : aT} {u : Nat → Int32} (h : Rep (mg m) t u) : m.1 95 3 = nI (t 13 3) := h.1 3 (by decide)
theorem x_shut {m : mj_m} {t : aT} {u : Nat → Int32} (h : Rep (cg m 1 8) t u) : m.1 1 10 = nI (t 13 4) := h.1 4 (by decide)
theorem y_shut {m : mj_m} {t : aT} {u : Nat → Int32} (h : Rep (mg m) t u) : m.1 95 4 = nI (t 13 4) := h.1 4 (by decide)
theorem x_daypart {m : mj_m} {t : aT} {u : Nat → Int32} (h : Rep (cg m 1 8) t u) : m.1 1 11 = nI (t 13 5) := h.1 5 (by decide)
theorem y_daypart {m : mj_m} {t : aT} {u : Nat → Int32} (h : Rep (mg m) t u) : m.1 95 5 = nI (t 13 5) := h.1 5 (by decide)
theorem x_purse {m : mj_m} {t : aT} {u : Nat → Int32} (h : Rep (cg m 1 8) t u) : m.1 1 12 = u 0 := h.2.1 0 (by decide)
theorem y_purse {m : mj_m} {t : aT} {u : Nat → Int32} (h : Rep (mg m) t u) : m.1 95 6 = u 0 := h.2.1 0 (by decide)
theorem x_year {m : mj_m} {t : aT} {u : Nat → Int32} (h : Rep (cg m 1 8) t u) : m.1 1 13 = u 1 := h.2.1 1 (by decide)
theorem y_year {m : mj_m} {t : aT} {u : Nat → Int32} (h : Rep (mg m) t u) : m.1 95 7 = u 1 := h.2.1 1 (by decide)
theorem x_gone {m : mj_m} {t : aT} {u : Nat → Int32} (h : Rep (cg m 1 8) t u) : m.1 1 14 = u 2 := h.2.1 2 (by decide)
theorem y_gone {m : mj_m} {t : aT} {u : Nat → Int32} (h : Rep (mg m) t u) : m.1 95 8 = u 2 := h.2.1 2 (by decide)
theorem x_seed {m : mj_m} {t : aT} {u : Nat → Int32} (h : Rep (cg m 1 8) t u) : m.1 1 15 = u 3 := h.2.1 3 (by decide)
theorem y_seed {m : mj_m} {t : aT} {u : Nat → Int32} (h : Rep (mg m) t u) : m.1 95 9 = u 3 := h.2.1 3 (by decide)
theorem x_corner {m : mj_m} {t : aT} {u : Nat → Int32} (h : Rep (cg m 1 8) t u) {i : Nat} (hi : i < t 13 1) : m.1 (8 + i) 0 = nI (t 0 i) := by
  have q := h.2.2.1 0 (by decide) i hi
  rw [if_neg (by decide), Int32.sub_zero] at q
  exact q
theorem y_corner {m : mj_m} {t : aT} {u : Nat → Int32} (h : Rep (mg m) t u) {i : Nat} (hi : i < t 13 1) : m.1 101 i = nI (t 0 i) := by
  have q := h.2.2.1 0 (by decide) i hi
  rw [if_neg (by decide), Int32.sub_zero] at q
  exact q
theorem x_weak {m : mj_m} {t : aT} {u : Nat → Int32} (h : Rep (cg m 1 8) t u) {i : Nat} (hi : i < t 13 1) : m.1 (8 + i) 1 = nI (t 1 i) := by
  have q := h.2.2.1 1 (by decide) i hi
  rw [if_neg (by decide), Int32.sub_zero] at q
  exact q
theorem y_weak {m : mj_m} {t : aT} {u : Nat → Int32} (h : Rep (mg m) t u) {i : Nat} (hi : i < t 13 1) : m.1 102 i = nI (t 1 i) := by
  have q := h.2.2.1 1 (by decide) i hi
  rw [if_neg (by decide), Int32.sub_zero] at q
  exact q
theorem x_day {m : mj_m} {t : aT} {u : Nat → Int32} (h : Rep (cg m 1 8) t u) {i : Nat} (hi : i < t 13 1) : m.1 (8 + i) 2 = nI (t 2 i) := by
  have q := h.2.2.1 2 (by decide) i hi
  rw [if_neg (by decide), Int32.sub_zero] at q
  exact q
theorem y_day {m : mj_m} {t : aT} {u : Nat → Int32} (h : Rep (mg m) t u) {i : Nat} (hi : i < t 13 1) : m.1 103 i = nI (t 2 i) := by
  have q := h.2.2.1 2 (by decide) i hi
  rw [if_neg (by decide), Int32.sub_zero] at q
  exact q
theorem x_night {m : mj_m} {t : aT} {u : Nat → Int32} (h : Rep (cg m 1 8) t u) {i : Nat} (hi : i < t 13 1) : m.1 (8 + i) 3 = nI (t 3 i) := by
  have q := h.2.2.1 3 (by decide) i hi
  rw [if_neg (by decide), Int32.sub_zero] at q
  exact q
theorem y_night {m : mj_m} {t : aT} {u : Nat → Int32} (h : Rep (mg m) t u) {i : Nat} (hi : i < t 13 1) : m.1 104 i = nI (t 3 i) := by
  have q := h.2.2.1 3 (by decide) i hi
  rw [if_neg (by decide), Int32.sub_zero] at q
  exact q
theorem x_cost {m : mj_m} {t : aT} {u : Nat → Int32} (h : Rep (cg m 1 8) t u) {i : Nat} (hi : i < t 13 1) : m.1 (8 + i) 4 = nI (t 4 i) := by
  have q := h.2.2.1 4 (by decide) i hi
  rw [if_neg (by decide), Int32.sub_zero] at q
  exact q
theorem y_cost {m : mj_m} {t : aT} {u : Nat → Int32} (h : Rep (mg m) t u) {i : Nat} (hi : i < t 13 1) : m.1 105 i = nI (t 4 i) := by
  have q := h.2.2.1 4 (by decide) i hi
  rw [if_neg (by decide), Int32.sub_zero] at q
  exact q
theorem x_front {m : mj_m} {t : aT} {u : Nat → Int32} (h : Rep (cg m 1 8) t u) {i : Nat} (hi : i < t 13 1) : m.1 (8 + i) 5 = nI (t 5 i) - 1 := h.2.2.1 5 (by decide) i hi
theorem y_front {m : mj_m} {t : aT} {u : Nat → Int32} (h : Rep (mg m) t u) {i : Nat} (hi : i < t 13 1) : m.1 106 i = nI (t 5 i) - 1 := h.2.2.1 5 (by decide) i hi
theorem x_next {m : mj_m} {t : aT} {u : Nat → Int32} (h : Rep (cg m 1 8) t u) {i : Nat} (hi : i < t 13 1) : m.1 (8 + i) 6 = nI (t 6 i) - 1 := h.2.2.1 6 (by decide) i hi
theorem y_next {m : mj_m} {t : aT} {u : Nat → Int32} (h : Rep (mg m) t u) {i : Nat} (hi : i < t 13 1) : m.1 107 i = nI (t 6 i) - 1 := h.2.2.1 6 (by decide) i hi
theorem x_steps {m : mj_m} {t : aT} {u : Nat → Int32} (h : Rep (cg m 1 8) t u) {i : Nat} (hi : i < t 13 1) : m.1 5 i = nI (t 7 i) := by
  have q := h.2.2.1 7 (by decide) i hi
  rw [if_neg (by decide), Int32.sub_zero] at q
  exact q
theorem y_steps {m : mj_m} {t : aT} {u : Nat → Int32} (h : Rep (mg m) t u) {i : Nat} (hi : i < t 13 1) : m.1 108 i = nI (t 7 i) := by
  have q := h.2.2.1 7 (by decide) i hi
  rw [if_neg (by decide), Int32.sub_zero] at q
  exact q
theorem x_prop {m : mj_m} {t : aT} {u : Nat → Int32} (h : Rep (cg m 1 8) t u) {i : Nat} (hi : i < t 13 1) : m.1 (8 + i) 7 = nI (t 8 i) := by
  have q := h.2.2.1 8 (by decide) i hi
  rw [if_neg (by decide), Int32.sub_zero] at q
  exact q
theorem y_prop {m : mj_m} {t : aT} {u : Nat → Int32} (h : Rep (mg m) t u) {i : Nat} (hi : i < t 13 1) : m.1 109 i = nI (t 8 i) := by
  have q := h.2.2.1 8 (by decide) i hi
  rw [if_neg (by decide), Int32.sub_zero] at q
  exact q
theorem x_ea {m : mj_m} {t : aT} {u : Nat → Int32} (h : Rep (cg m 1 8) t u) {i : Nat} (hi : i < t 13 0) : m.1 2 i = nI (t 9 i) := h.2.2.2.1 9 (by decide) i hi
theorem y_ea {m : mj_m} {t : aT} {u : Nat → Int32} (h : Rep (mg m) t u) {i : Nat} (hi : i < t 13 0) : m.1 97 i = nI (t 9 i) := h.2.2.2.1 9 (by decide) i hi
theorem x_eb {m : mj_m} {t : aT} {u : Nat → Int32} (h : Rep (cg m 1 8) t u) {i : Nat} (hi : i < t 13 0) : m.1 3 i = nI (t 10 i) := h.2.2.2.1 10 (by decide) i hi
theorem y_eb {m : mj_m} {t : aT} {u : Nat → Int32} (h : Rep (mg m) t u) {i : Nat} (hi : i < t 13 0) : m.1 98 i = nI (t 10 i) := h.2.2.2.1 10 (by decide) i hi
theorem x_chance {m : mj_m} {t : aT} {u : Nat → Int32} (h : Rep (cg m 1 8) t u) {i : Nat} (hi : i < t 13 2) : m.1 6 i = nI (t 11 i) := h.2.2.2.2 11 (by decide) i hi
theorem y_chance {m : mj_m} {t : aT} {u : Nat → Int32} (h : Rep (mg m) t u) {i : Nat} (hi : i < t 13 2) : m.1 99 i = nI (t 11 i) := h.2.2.2.2 11 (by decide) i hi
theorem x_hard {m : mj_m} {t : aT} {u : Nat → Int32} (h : Rep (cg m 1 8) t u) {i : Nat} (hi : i < t 13 2) : m.1 7 i = nI (t 12 i) := h.2.2.2.2 12 (by decide) i hi
theorem y_hard {m : mj_m} {t : aT} {u : Nat → Int32} (h : Rep (mg m) t u) {i : Nat} (hi : i < t 13 2) : m.1 100 i = nI (t 12 i) := h.2.2.2.2 12 (by decide) i hi
theorem GH {t : aT} (hG : Good t) : t 13 1 ≤ 10 := hG.1.2.1
theorem GS {t : aT} (hG : Good t) : t 13 0 ≤ 12 := hG.1.1
theorem GK {t : aT} (hG : Good t) : t 13 2 ≤ 4 := hG.1.2.2.1
theorem xisH {m : mj_m} {t : aT} {u : Nat → Int32} (hG : Good t) (h : Rep (cg m 1 8) t u) (N : Nat) {k : Nat} (hk : k < t 13 1) : f_X7_isHouse N (nI k) m = some 1 := by
  have hb := GH hG
  have q := bndi (x_houses h) (by omega) hk
  unfold f_X7_isHouse f_X7_isHouse_22
  rw [if_neg q.1, if_neg q.2, if_neg (show ¬ 10 ≤ nI k from (nI_ge (by omega) (by decide) : ¬ nI 10 ≤ nI k))]
theorem yisH {m : mj_m} {t : aT} {u : Nat → Int32} (hG : Good t) (h : Rep (mg m) t u) (N : Nat) {k : Nat} (hk : k < t 13 1) : f_X9_isHouse N (nI k) m = some 1 := by
  have hb := GH hG
  have q := bndi (y_houses h) (by omega) hk
  unfold f_X9_isHouse f_X9_isHouse_16
  rw [if_neg q.1, if_neg q.2]
/-- houses that come one by one out of numbers e, five each: how many come, and what the town is then -/
def okH (t : aT) (c a b d e : Int32) : Bool := decide (t 13 1 < 10) && (decide (0 ≤ c.toInt) && (decide (c.toInt < 8) && (decide (0 ≤ a.toInt) && (decide (a.toInt ≤ 9) && (decide (0 ≤ b.toInt) && (decide (b.toInt ≤ 99) && (decide (0 ≤ d.toInt) && (decide (d.toInt ≤ 99) && (decide (1 ≤ e.toInt) && decide (e.toInt ≤ 99))))))))))
def newH (c a b d e : Int32) : Nat → Nat := fun f => if f = 0 then c.toNatClampNeg else if f = 1 then a.toNatClampNeg else if f = 2 then b.toNatClampNeg else if f = 3 then d.toNatClampNeg else if f = 4 then e.toNatClampNeg else 0
def growH (e : Nat → Int32) : Nat → Nat → aT → Nat × aT
  | 0, _, t => (0, t)
  | n + 1, i, t => if okH t (e i) (e (i + 1)) (e (i + 2)) (e (i + 3)) (e (i + 4)) = true then ((growH e n (i + 5) (grow t 0 8 1 (newH (e i) (e (i + 1)) (e (i + 2)) (e (i + 3)) (e (i + 4))))).1 + 1, (growH e n (i + 5) (grow t 0 8 1 (newH (e i) (e (i + 1)) (e (i + 2)) (e (i + 3)) (e (i + 4))))).2) else (0, t)
theorem okH_use {t : aT} {c a b d e : Int32} (h : okH t c a b d e = true) : t 13 1 < 10 ∧ ∃ C A B D E : Nat, C < 8 ∧ A ≤ 9 ∧ B ≤ 99 ∧ D ≤ 99 ∧ 1 ≤ E ∧ E ≤ 99 ∧ c = nI C ∧ a = nI A ∧ b = nI B ∧ d = nI D ∧ e = nI E := by
  simp only [okH, Bool.and_eq_true, decide_eq_true_eq] at h
  obtain ⟨h0, h1, h2, h3, h4, h5, h6, h7, h8, h9, h10⟩ := h
  have z : ∀ x : Int32, 0 ≤ x.toInt → ∃ n : Nat, x = nI n ∧ (n : Int) = x.toInt := by
    intro x hx
    obtain ⟨n, hn, e⟩ := nI_of (mj_nn hx)
    exact ⟨n, e, by rw [e, nI_toInt hn]⟩
  obtain ⟨C, c1, c2⟩ := z c h1
  obtain ⟨A, a1, a2⟩ := z a h3
  obtain ⟨B, b1, b2⟩ := z b h5
  obtain ⟨D, d1, d2⟩ := z d h7
  obtain ⟨E, e1, e2⟩ := z e (by omega)
  exact ⟨h0, C, A, B, D, E, by omega, by omega, by omega, by omega, by omega, by omega, c1, a1, b1, d1, e1⟩
theorem okH_good {t : aT} {c a b d e : Int32} (hG : Good t) (h : okH t c a b d e = true) : Good (grow t 0 8 1 (newH c a b d e)) := by
  obtain ⟨h0, C, A, B, D, E, c1, a1, b1, d1, e1, e2, rfl, rfl, rfl, rfl, rfl⟩ := okH_use h
  refine Good_grow _ hG (by omega) ⟨by omega, fun _ => ?_, by omega⟩
  show (nI C).toNatClampNeg < 8 ∧ (nI A).toNatClampNeg ≤ 9 ∧ (nI B).toNatClampNeg ≤ 99 ∧ (nI D).toNatClampNeg ≤ 99 ∧ (1 ≤ (nI E).toNatClampNeg ∧ (nI E).toNatClampNeg ≤ 99) ∧ 0 ≤ _ ∧ 0 ≤ _ ∧ 0 ≤ 2 ∧ 0 ≤ 1
  rw [nI_clamp (by omega), nI_clamp (by omega), nI_clamp (by omega), nI_clamp (by omega), nI_clamp (by omega)]
  omega
theorem okH_c {m : mj_m} {t : aT} {u : Nat → Int32} {c a b d e : Int32} (hG : Good t) (g : Rep (cg m 1 8) t u) (h : okH t c a b d e = true) : Rep (cg (h8w m (t 13 1) c a b d e) 1 8) (grow t 0 8 1 (newH c a b d e)) u := by
  obtain ⟨h0, C, A, B, D, E, c1, a1, b1, d1, e1, e2, rfl, rfl, rfl, rfl, rfl⟩ := okH_use h
  have q := gc_house hG g h0 (newH (nI C) (nI A) (nI B) (nI D) (nI E)) rfl rfl rfl rfl
  have z : ∀ n : Nat, n ≤ 99 → nI (nI n).toNatClampNeg = nI n := fun n hn => by rw [nI_clamp (by omega)]
  rw [show newH (nI C) (nI A) (nI B) (nI D) (nI E) 0 = (nI C).toNatClampNeg from rfl, show newH (nI C) (nI A) (nI B) (nI D) (nI E) 1 = (nI A).toNatClampNeg from rfl, show newH (nI C) (nI A) (nI B) (nI D) (nI E) 2 = (nI B).toNatClampNeg from rfl, show newH (nI C) (nI A) (nI B) (nI D) (nI E) 3 = (nI D).toNatClampNeg from rfl, show newH (nI C) (nI A) (nI B) (nI D) (nI E) 4 = (nI E).toNatClampNeg from rfl, z C (by omega), z A (by omega), z B (by omega), z D (by omega), z E (by omega)] at q
  exact q
theorem okH_m {m : mj_m} {t : aT} {u : Nat → Int32} {c a b d e : Int32} (hG : Good t) (g : Rep (mg m) t u) (h : okH t c a b d e = true) : Rep (mg (h9w m (t 13 1) c a b d e)) (grow t 0 8 1 (newH c a b d e)) u := by
  obtain ⟨h0, C, A, B, D, E, c1, a1, b1, d1, e1, e2, rfl, rfl, rfl, rfl, rfl⟩ := okH_use h
  have q := gm_house hG g h0 (newH (nI C) (nI A) (nI B) (nI D) (nI E)) rfl rfl rfl rfl
  have z : ∀ n : Nat, n ≤ 99 → nI (nI n).toNatClampNeg = nI n := fun n hn => by rw [nI_clamp (by omega)]
  rw [show newH (nI C) (nI A) (nI B) (nI D) (nI E) 0 = (nI C).toNatClampNeg from rfl, show newH (nI C) (nI A) (nI B) (nI D) (nI E) 1 = (nI A).toNatClampNeg from rfl, show newH (nI C) (nI A) (nI B) (nI D) (nI E) 2 = (nI B).toNatClampNeg from rfl, show newH (nI C) (nI A) (nI B) (nI D) (nI E) 3 = (nI D).toNatClampNeg from rfl, show newH (nI C) (nI A) (nI B) (nI D) (nI E) 4 = (nI E).toNatClampNeg from rfl, z C (by omega), z A (by omega), z B (by omega), z D (by omega), z E (by omega)] at q
  exact q
/-- the tests, by this -/
theorem okH_t {t : aT} {c a b d e : Int32} {N : Nat} {m m' : mj_m} (hn : t 13 1 < 10) : (okH t c a b d e = true ∧ f_X8_isCorner N c m = some 1 ∧ f_X8_canBeHouse N a b d e m' = some 1) ∨ (okH t c a b d e = false ∧ (f_X8_isCorner N c m = some 0 ∨ f_X8_isCorner N c m = some 1 ∧ f_X8_canBeHouse N a b d e m' = some 0)) := by
  have z : ∀ n : Nat, n ≤ 99 → (nI n).toInt = (n : Int) := fun n hn => nI_toInt (by omega)
  rcases isC N c m with h1 | ⟨C, c1, rfl, h1⟩
  · refine Or.inr ⟨?_, Or.inl h1⟩
    rw [Bool.eq_false_iff]
    intro q
    obtain ⟨-, C, _, _, _, _, c1, -, -, -, -, -, rfl, -⟩ := okH_use q
    unfold f_X8_isCorner at h1
    rw [if_neg (nI_pos (by omega)), if_neg (show ¬ 8 ≤ nI C from (nI_ge c1 (by omega) : ¬ nI 8 ≤ nI C))] at h1
    exact absurd (Option.some.inj h1) (by decide)
  rcases isCB N a b d e m' with h2 | ⟨A, B, D, E, a1, b1, d1, e1, e2, rfl, rfl, rfl, rfl, h2⟩
  · refine Or.inr ⟨?_, Or.inr ⟨h1, h2⟩⟩
    rw [Bool.eq_false_iff]
    intro q
    obtain ⟨-, _, A, B, D, E, -, a1, b1, d1, e1, e2, -, rfl, rfl, rfl, rfl⟩ := okH_use q
    unfold f_X8_canBeHouse at h2
    rw [if_neg (nI_pos (by omega)), if_neg (show ¬ 9 < nI A from (nI_nlt a1 (by omega) : ¬ nI 9 < nI A)), if_neg (nI_pos (by omega)), if_neg (show ¬ 99 < nI B from (nI_nlt b1 (by omega) : ¬ nI 99 < nI B)), if_neg (nI_pos (by omega)), if_neg (show ¬ 99 < nI D from (nI_nlt d1 (by omega) : ¬ nI 99 < nI D)), if_neg (show ¬ nI E < 1 from (nI_nlt e1 (by omega) : ¬ nI E < nI 1)), if_neg (show ¬ 99 < nI E from (nI_nlt e2 (by omega) : ¬ nI 99 < nI E))] at h2
    exact absurd (Option.some.inj h2) (by decide)
  · refine Or.inl ⟨?_, h1, h2⟩
    simp only [okH, Bool.and_eq_true, decide_eq_true_eq]
    rw [z C (by omega), z A (by omega), z B (by omega), z D (by omega), z E (by omega)]
    omega
