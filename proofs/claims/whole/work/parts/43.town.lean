/-! WHAT THE CELLS HOLD, one by one; houses, streets, shakes by their numbers -/
theorem c_streets {m : mj_m} {t : aT} {u : Nat → Int32} (h : RT m t u) : m.1 1 6 = nI (t 13 0) := h.2.1.1 0 (by decide)
theorem m_streets {m : mj_m} {t : aT} {u : Nat → Int32} (h : RT m t u) : m.1 95 0 = nI (t 13 0) := h.2.2.1 0 (by decide)
theorem c_houses {m : mj_m} {t : aT} {u : Nat → Int32} (h : RT m t u) : m.1 1 7 = nI (t 13 1) := h.2.1.1 1 (by decide)
theorem m_houses {m : mj_m} {t : aT} {u : Nat → Int32} (h : RT m t u) : m.1 95 1 = nI (t 13 1) := h.2.2.1 1 (by decide)
theorem c_shakes {m : mj_m} {t : aT} {u : Nat → Int32} (h : RT m t u) : m.1 1 8 = nI (t 13 2) := h.2.1.1 2 (by decide)
theorem m_shakes {m : mj_m} {t : aT} {u : Nat → Int32} (h : RT m t u) : m.1 95 2 = nI (t 13 2) := h.2.2.1 2 (by decide)
theorem c_coin {m : mj_m} {t : aT} {u : Nat → Int32} (h : RT m t u) : m.1 1 9 = nI (t 13 3) := h.2.1.1 3 (by decide)
theorem m_coin {m : mj_m} {t : aT} {u : Nat → Int32} (h : RT m t u) : m.1 95 3 = nI (t 13 3) := h.2.2.1 3 (by decide)
theorem c_shut {m : mj_m} {t : aT} {u : Nat → Int32} (h : RT m t u) : m.1 1 10 = nI (t 13 4) := h.2.1.1 4 (by decide)
theorem m_shut {m : mj_m} {t : aT} {u : Nat → Int32} (h : RT m t u) : m.1 95 4 = nI (t 13 4) := h.2.2.1 4 (by decide)
theorem c_daypart {m : mj_m} {t : aT} {u : Nat → Int32} (h : RT m t u) : m.1 1 11 = nI (t 13 5) := h.2.1.1 5 (by decide)
theorem m_daypart {m : mj_m} {t : aT} {u : Nat → Int32} (h : RT m t u) : m.1 95 5 = nI (t 13 5) := h.2.2.1 5 (by decide)
theorem c_purse {m : mj_m} {t : aT} {u : Nat → Int32} (h : RT m t u) : m.1 1 12 = u 0 := h.2.1.2.1 0 (by decide)
theorem m_purse {m : mj_m} {t : aT} {u : Nat → Int32} (h : RT m t u) : m.1 95 6 = u 0 := h.2.2.2.1 0 (by decide)
theorem c_year {m : mj_m} {t : aT} {u : Nat → Int32} (h : RT m t u) : m.1 1 13 = u 1 := h.2.1.2.1 1 (by decide)
theorem m_year {m : mj_m} {t : aT} {u : Nat → Int32} (h : RT m t u) : m.1 95 7 = u 1 := h.2.2.2.1 1 (by decide)
theorem c_gone {m : mj_m} {t : aT} {u : Nat → Int32} (h : RT m t u) : m.1 1 14 = u 2 := h.2.1.2.1 2 (by decide)
theorem m_gone {m : mj_m} {t : aT} {u : Nat → Int32} (h : RT m t u) : m.1 95 8 = u 2 := h.2.2.2.1 2 (by decide)
theorem c_seed {m : mj_m} {t : aT} {u : Nat → Int32} (h : RT m t u) : m.1 1 15 = u 3 := h.2.1.2.1 3 (by decide)
theorem m_seed {m : mj_m} {t : aT} {u : Nat → Int32} (h : RT m t u) : m.1 95 9 = u 3 := h.2.2.2.1 3 (by decide)
theorem c_corner {m : mj_m} {t : aT} {u : Nat → Int32} (h : RT m t u) {i : Nat} (hi : i < t 13 1) : m.1 (8 + i) 0 = nI (t 0 i) := by
  have q := h.2.1.2.2.1 0 (by decide) i hi
  rw [if_neg (by decide), Int32.sub_zero] at q
  exact q
theorem m_corner {m : mj_m} {t : aT} {u : Nat → Int32} (h : RT m t u) {i : Nat} (hi : i < t 13 1) : m.1 101 i = nI (t 0 i) := by
  have q := h.2.2.2.2.1 0 (by decide) i hi
  rw [if_neg (by decide), Int32.sub_zero] at q
  exact q
theorem c_weak {m : mj_m} {t : aT} {u : Nat → Int32} (h : RT m t u) {i : Nat} (hi : i < t 13 1) : m.1 (8 + i) 1 = nI (t 1 i) := by
  have q := h.2.1.2.2.1 1 (by decide) i hi
  rw [if_neg (by decide), Int32.sub_zero] at q
  exact q
theorem m_weak {m : mj_m} {t : aT} {u : Nat → Int32} (h : RT m t u) {i : Nat} (hi : i < t 13 1) : m.1 102 i = nI (t 1 i) := by
  have q := h.2.2.2.2.1 1 (by decide) i hi
  rw [if_neg (by decide), Int32.sub_zero] at q
  exact q
theorem c_day {m : mj_m} {t : aT} {u : Nat → Int32} (h : RT m t u) {i : Nat} (hi : i < t 13 1) : m.1 (8 + i) 2 = nI (t 2 i) := by
  have q := h.2.1.2.2.1 2 (by decide) i hi
  rw [if_neg (by decide), Int32.sub_zero] at q
  exact q
theorem m_day {m : mj_m} {t : aT} {u : Nat → Int32} (h : RT m t u) {i : Nat} (hi : i < t 13 1) : m.1 103 i = nI (t 2 i) := by
  have q := h.2.2.2.2.1 2 (by decide) i hi
  rw [if_neg (by decide), Int32.sub_zero] at q
  exact q
theorem c_night {m : mj_m} {t : aT} {u : Nat → Int32} (h : RT m t u) {i : Nat} (hi : i < t 13 1) : m.1 (8 + i) 3 = nI (t 3 i) := by
  have q := h.2.1.2.2.1 3 (by decide) i hi
  rw [if_neg (by decide), Int32.sub_zero] at q
  exact q
theorem m_night {m : mj_m} {t : aT} {u : Nat → Int32} (h : RT m t u) {i : Nat} (hi : i < t 13 1) : m.1 104 i = nI (t 3 i) := by
  have q := h.2.2.2.2.1 3 (by decide) i hi
  rw [if_neg (by decide), Int32.sub_zero] at q
  exact q
theorem c_cost {m : mj_m} {t : aT} {u : Nat → Int32} (h : RT m t u) {i : Nat} (hi : i < t 13 1) : m.1 (8 + i) 4 = nI (t 4 i) := by
  have q := h.2.1.2.2.1 4 (by decide) i hi
  rw [if_neg (by decide), Int32.sub_zero] at q
  exact q
theorem m_cost {m : mj_m} {t : aT} {u : Nat → Int32} (h : RT m t u) {i : Nat} (hi : i < t 13 1) : m.1 105 i = nI (t 4 i) := by
  have q := h.2.2.2.2.1 4 (by decide) i hi
  rw [if_neg (by decide), Int32.sub_zero] at q
  exact q
theorem c_front {m : mj_m} {t : aT} {u : Nat → Int32} (h : RT m t u) {i : Nat} (hi : i < t 13 1) : m.1 (8 + i) 5 = nI (t 5 i) - 1 := h.2.1.2.2.1 5 (by decide) i hi
theorem m_front {m : mj_m} {t : aT} {u : Nat → Int32} (h : RT m t u) {i : Nat} (hi : i < t 13 1) : m.1 106 i = nI (t 5 i) - 1 := h.2.2.2.2.1 5 (by decide) i hi
theorem c_next {m : mj_m} {t : aT} {u : Nat → Int32} (h : RT m t u) {i : Nat} (hi : i < t 13 1) : m.1 (8 + i) 6 = nI (t 6 i) - 1 := h.2.1.2.2.1 6 (by decide) i hi
theorem m_next {m : mj_m} {t : aT} {u : Nat → Int32} (h : RT m t u) {i : Nat} (hi : i < t 13 1) : m.1 107 i = nI (t 6 i) - 1 := h.2.2.2.2.1 6 (by decide) i hi
theorem c_steps {m : mj_m} {t : aT} {u : Nat → Int32} (h : RT m t u) {i : Nat} (hi : i < t 13 1) : m.1 5 i = nI (t 7 i) := by
  have q := h.2.1.2.2.1 7 (by decide) i hi
  rw [if_neg (by decide), Int32.sub_zero] at q
  exact q
theorem m_steps {m : mj_m} {t : aT} {u : Nat → Int32} (h : RT m t u) {i : Nat} (hi : i < t 13 1) : m.1 108 i = nI (t 7 i) := by
  have q := h.2.2.2.2.1 7 (by decide) i hi
  rw [if_neg (by decide), Int32.sub_zero] at q
  exact q
theorem c_prop {m : mj_m} {t : aT} {u : Nat → Int32} (h : RT m t u) {i : Nat} (hi : i < t 13 1) : m.1 (8 + i) 7 = nI (t 8 i) := by
  have q := h.2.1.2.2.1 8 (by decide) i hi
  rw [if_neg (by decide), Int32.sub_zero] at q
  exact q
theorem m_prop {m : mj_m} {t : aT} {u : Nat → Int32} (h : RT m t u) {i : Nat} (hi : i < t 13 1) : m.1 109 i = nI (t 8 i) := by
  have q := h.2.2.2.2.1 8 (by decide) i hi
  rw [if_neg (by decide), Int32.sub_zero] at q
  exact q
theorem c_ea {m : mj_m} {t : aT} {u : Nat → Int32} (h : RT m t u) {i : Nat} (hi : i < t 13 0) : m.1 2 i = nI (t 9 i) := h.2.1.2.2.2.1 9 (by decide) i hi
theorem m_ea {m : mj_m} {t : aT} {u : Nat → Int32} (h : RT m t u) {i : Nat} (hi : i < t 13 0) : m.1 97 i = nI (t 9 i) := h.2.2.2.2.2.1 9 (by decide) i hi
theorem c_eb {m : mj_m} {t : aT} {u : Nat → Int32} (h : RT m t u) {i : Nat} (hi : i < t 13 0) : m.1 3 i = nI (t 10 i) := h.2.1.2.2.2.1 10 (by decide) i hi
theorem m_eb {m : mj_m} {t : aT} {u : Nat → Int32} (h : RT m t u) {i : Nat} (hi : i < t 13 0) : m.1 98 i = nI (t 10 i) := h.2.2.2.2.2.1 10 (by decide) i hi
theorem c_chance {m : mj_m} {t : aT} {u : Nat → Int32} (h : RT m t u) {i : Nat} (hi : i < t 13 2) : m.1 6 i = nI (t 11 i) := h.2.1.2.2.2.2 11 (by decide) i hi
theorem m_chance {m : mj_m} {t : aT} {u : Nat → Int32} (h : RT m t u) {i : Nat} (hi : i < t 13 2) : m.1 99 i = nI (t 11 i) := h.2.2.2.2.2.2 11 (by decide) i hi
theorem c_hard {m : mj_m} {t : aT} {u : Nat → Int32} (h : RT m t u) {i : Nat} (hi : i < t 13 2) : m.1 7 i = nI (t 12 i) := h.2.1.2.2.2.2 12 (by decide) i hi
theorem m_hard {m : mj_m} {t : aT} {u : Nat → Int32} (h : RT m t u) {i : Nat} (hi : i < t 13 2) : m.1 100 i = nI (t 12 i) := h.2.2.2.2.2.2 12 (by decide) i hi
theorem RT_nH {m : mj_m} {t : aT} {u : Nat → Int32} (h : RT m t u) : t 13 1 ≤ 10 := h.1.1.2.1
theorem RT_nS {m : mj_m} {t : aT} {u : Nat → Int32} (h : RT m t u) : t 13 0 ≤ 12 := h.1.1.1
theorem RT_nK {m : mj_m} {t : aT} {u : Nat → Int32} (h : RT m t u) : t 13 2 ≤ 4 := h.1.1.2.2.1
theorem bnd {c v : Int32} {n : Nat} (hc : c = nI n) (hn : n ≤ 1000) (h0 : ¬ v < 0) (h1 : ¬ c ≤ v) : ∃ k, k < n ∧ v = nI k := by
  obtain ⟨j, hj, rfl⟩ := nI_of h0
  refine ⟨j, ?_, rfl⟩
  rw [hc] at h1
  rcases Nat.lt_or_ge j n with q | q
  · exact q
  · exact absurd (nI_le q hj) h1
theorem bndn {c v : Int32} {n : Nat} (hc : c = nI n) (hn : n ≤ 1000) (h : v < 0 ∨ c ≤ v) : ∀ k, k < n → v ≠ nI k := by
  intro k hk e
  subst e
  rcases h with h | h
  · exact nI_pos (by omega) h
  · rw [hc] at h; exact nI_ge hk (by omega) h
theorem bndi {c : Int32} {n k : Nat} (hc : c = nI n) (hn : n ≤ 1000) (h : k < n) : ¬ nI k < 0 ∧ ¬ c ≤ nI k := ⟨nI_pos (by omega), by rw [hc]; exact nI_ge h (by omega)⟩
theorem isH8 {m : mj_m} {t : aT} {u : Nat → Int32} (h : RT m t u) (N : Nat) (v : Int32) : (f_X7_isHouse N v m = some 0 ∧ ∀ k, k < t 13 1 → v ≠ nI k) ∨ ∃ k, k < t 13 1 ∧ v = nI k ∧ f_X7_isHouse N v m = some 1 := by
  have hc := c_houses h
  have hb := RT_nH h
  unfold f_X7_isHouse f_X7_isHouse_22
  by_cases h0 : v < 0
  · rw [if_pos h0]; exact Or.inl ⟨rfl, bndn hc (by omega) (Or.inl h0)⟩
  · rw [if_neg h0]
    by_cases h1 : m.1 1 7 ≤ v
    · rw [if_pos h1]; exact Or.inl ⟨rfl, bndn hc (by omega) (Or.inr h1)⟩
    · rw [if_neg h1]
      obtain ⟨k, hk, rfl⟩ := bnd hc (by omega) h0 h1
      rw [if_neg (by exact nI_ge (show k < 10 by omega) (by decide))]
      exact Or.inr ⟨k, hk, rfl, rfl⟩
theorem isS8 {m : mj_m} {t : aT} {u : Nat → Int32} (h : RT m t u) (N : Nat) (v : Int32) : (f_X7_isStreet N v m = some 0 ∧ ∀ k, k < t 13 0 → v ≠ nI k) ∨ ∃ k, k < t 13 0 ∧ v = nI k ∧ f_X7_isStreet N v m = some 1 := by
  have hc := c_streets h
  have hb := RT_nS h
  unfold f_X7_isStreet f_X7_isStreet_22
  by_cases h0 : v < 0
  · rw [if_pos h0]; exact Or.inl ⟨rfl, bndn hc (by omega) (Or.inl h0)⟩
  · rw [if_neg h0]
    by_cases h1 : m.1 1 6 ≤ v
    · rw [if_pos h1]; exact Or.inl ⟨rfl, bndn hc (by omega) (Or.inr h1)⟩
    · rw [if_neg h1]
      obtain ⟨k, hk, rfl⟩ := bnd hc (by omega) h0 h1
      rw [if_neg (by exact nI_ge (show k < 12 by omega) (by decide))]
      exact Or.inr ⟨k, hk, rfl, rfl⟩
theorem isK8 {m : mj_m} {t : aT} {u : Nat → Int32} (h : RT m t u) (N : Nat) (v : Int32) : (f_X7_isShake N v m = some 0 ∧ ∀ k, k < t 13 2 → v ≠ nI k) ∨ ∃ k, k < t 13 2 ∧ v = nI k ∧ f_X7_isShake N v m = some 1 := by
  have hc := c_shakes h
  have hb := RT_nK h
  unfold f_X7_isShake f_X7_isShake_21
  by_cases h0 : v < 0
  · rw [if_pos h0]; exact Or.inl ⟨rfl, bndn hc (by omega) (Or.inl h0)⟩
  · rw [if_neg h0]
    by_cases h1 : m.1 1 8 ≤ v
    · rw [if_pos h1]; exact Or.inl ⟨rfl, bndn hc (by omega) (Or.inr h1)⟩
    · rw [if_neg h1]
      obtain ⟨k, hk, rfl⟩ := bnd hc (by omega) h0 h1
      rw [if_neg (by exact nI_ge (show k < 4 by omega) (by decide))]
      exact Or.inr ⟨k, hk, rfl, rfl⟩
theorem isH9 {m : mj_m} {t : aT} {u : Nat → Int32} (h : RT m t u) (N : Nat) (v : Int32) : (f_X9_isHouse N v m = some 0 ∧ ∀ k, k < t 13 1 → v ≠ nI k) ∨ ∃ k, k < t 13 1 ∧ v = nI k ∧ f_X9_isHouse N v m = some 1 := by
  have hc := m_houses h
  have hb := RT_nH h
  unfold f_X9_isHouse f_X9_isHouse_16
  by_cases h0 : v < 0
  · rw [if_pos h0]; exact Or.inl ⟨rfl, bndn hc (by omega) (Or.inl h0)⟩
  · rw [if_neg h0]
    by_cases h1 : m.1 95 1 ≤ v
    · rw [if_pos h1]; exact Or.inl ⟨rfl, bndn hc (by omega) (Or.inr h1)⟩
    · rw [if_neg h1]
      obtain ⟨k, hk, rfl⟩ := bnd hc (by omega) h0 h1
      exact Or.inr ⟨k, hk, rfl, rfl⟩
theorem isK9 {m : mj_m} {t : aT} {u : Nat → Int32} (h : RT m t u) (N : Nat) (v : Int32) : (f_X9_isShake N v m = some 0 ∧ ∀ k, k < t 13 2 → v ≠ nI k) ∨ ∃ k, k < t 13 2 ∧ v = nI k ∧ f_X9_isShake N v m = some 1 := by
  have hc := m_shakes h
  have hb := RT_nK h
  unfold f_X9_isShake f_X9_isShake_16
  by_cases h0 : v < 0
  · rw [if_pos h0]; exact Or.inl ⟨rfl, bndn hc (by omega) (Or.inl h0)⟩
  · rw [if_neg h0]
    by_cases h1 : m.1 95 2 ≤ v
    · rw [if_pos h1]; exact Or.inl ⟨rfl, bndn hc (by omega) (Or.inr h1)⟩
    · rw [if_neg h1]
      obtain ⟨k, hk, rfl⟩ := bnd hc (by omega) h0 h1
      exact Or.inr ⟨k, hk, rfl, rfl⟩
