/-! THE SHELVES: what bars a row, a rule -/
theorem o6 {s : Nat} (hs : s < 8) : mj_o 6 (79 + 2 * s) = true := by
  rcases (by omega : s = 0 ∨ s = 1 ∨ s = 2 ∨ s = 3 ∨ s = 4 ∨ s = 5 ∨ s = 6 ∨ s = 7) with rfl | rfl | rfl | rfl | rfl | rfl | rfl | rfl <;> decide
theorem bS {s j : Nat} (hs : s < 8) (hj : j < 120) : mj_b 1 (79 + 2 * s + 1) (nI j) = true := by
  rcases (by omega : s = 0 ∨ s = 1 ∨ s = 2 ∨ s = 3 ∨ s = 4 ∨ s = 5 ∨ s = 6 ∨ s = 7) with rfl | rfl | rfl | rfl | rfl | rfl | rfl | rfl <;> exact b_nI (by decide) rfl hj (by decide)
theorem isSh (N : Nat) (v : Int32) (m : mj_m) : f_X8_isShelf N v m = some 0 ∨ ∃ s, s < 8 ∧ v = nI s ∧ f_X8_isShelf N v m = some 1 := by
  unfold f_X8_isShelf f_X8_isShelf_14
  by_cases h0 : v < 0
  · exact Or.inl (if_pos h0)
  · rw [if_neg h0]
    by_cases h1 : 8 ≤ v
    · exact Or.inl (if_pos h1)
    · rw [if_neg h1]
      obtain ⟨k, hk, e⟩ := bnd (c := 8) (n := 8) rfl (by omega) h0 h1
      exact Or.inr ⟨k, hk, e, rfl⟩
theorem isSh9 (N : Nat) (v : Int32) (m m' : mj_m) : f_X9_isShelf N v m' = f_X8_isShelf N v m := rfl
def RowS (m : mj_m) (s o n : Nat) : Prop := o < 4 ∧ n ≤ 120 ∧ m.1 110 s = 1 ∧ m.1 111 s = nI o ∧ m.1 112 s = nI n ∧ m.1 (79 + 2 * s) 1 = nI (100 + o) ∧ m.1 (79 + 2 * s) 2 = nI n ∧ ∀ i, i < n → m.2 (80 + 2 * s) i = m.2 115 (120 * s + i)
def RuleS (m : mj_m) (s k a : Nat) : Prop := k < 7 ∧ m.1 110 s = 2 ∧ m.1 113 s = nI k ∧ m.1 (79 + 2 * s) 1 = nI k ∧ m.1 (79 + 2 * s) 3 = nI a ∧ a ≤ 99 ∧ m.1 114 s = nI a ∧
    ((k ≠ 6 ∧ m.1 (79 + 2 * s) 2 = 0) ∨ k = 6 ∧ ∃ n : Nat, n ≤ 120 ∧ m.1 112 s = nI n ∧ m.1 (79 + 2 * s) 2 = nI n ∧ ∀ i, i < n → (m.2 (80 + 2 * s) i).toInt32 = (m.2 115 (120 * s + i)).toInt32)
theorem shN (m : mj_m) (s : Nat) (h : m.1 110 s = 0 ∧ m.1 (79 + 2 * s) 1 = -1 ∧ m.1 (79 + 2 * s) 2 = 0) : ShR m s := Or.inl h
theorem shRow {m : mj_m} {s o n : Nat} (h : RowS m s o n) : ShR m s := Or.inr (Or.inl ⟨o, n, h⟩)
theorem shRule {m : mj_m} {s k a : Nat} (h : RuleS m s k a) : ShR m s := by
  obtain ⟨h0, h1, h2, h3, h4, h5, h6, h7⟩ := h
  exact Or.inr (Or.inr ⟨k, h0, h1, h2, h3, h4.trans h6.symm, ⟨a, h5, h6⟩, h7⟩)
theorem sh_cases {m : mj_m} {s : Nat} (h : ShR m s) : (m.1 110 s = 0 ∧ m.1 (79 + 2 * s) 1 = -1 ∧ m.1 (79 + 2 * s) 2 = 0) ∨ (∃ o n, RowS m s o n) ∨ ∃ k a, RuleS m s k a := by
  rcases h with h | ⟨o, n, h⟩ | ⟨k, h0, h1, h2, h3, h4, ⟨a, h5, h6⟩, h7⟩
  · exact Or.inl h
  · exact Or.inr (Or.inl ⟨o, n, h⟩)
  · exact Or.inr (Or.inr ⟨k, a, h0, h1, h2, h3, h4.trans h6, h5, h6, h7⟩)
/-- the class's tests of a shelf -/
theorem is_N {m : mj_m} {s : Nat} (hs : s < 8) (h : m.1 (79 + 2 * s) 1 = -1) (N : Nat) : f_X6_isRule N (79 + 2 * s) m = some 0 ∧ f_X6_isRow N (79 + 2 * s) m = some 0 := by
  unfold f_X6_isRule f_X6_isRow
  rw [mj_ck_t (o6 hs), mj_ck_t (o6 hs), h]
  exact ⟨rfl, rfl⟩
theorem is_Row {m : mj_m} {s o : Nat} (hs : s < 8) (ho : o < 4) (h : m.1 (79 + 2 * s) 1 = nI (100 + o)) (N : Nat) : f_X6_isRule N (79 + 2 * s) m = some 0 ∧ f_X6_isRow N (79 + 2 * s) m = some 1 := by
  unfold f_X6_isRule f_X6_isRow
  rw [mj_ck_t (o6 hs), mj_ck_t (o6 hs), h, if_neg (nI_pos (by omega)), if_pos (show 100 ≤ nI (100 + o) from (nI_le (by omega) (by omega) : nI 100 ≤ nI (100 + o))), if_neg (show ¬ nI (100 + o) < 100 from (nI_nlt (by omega) (by omega) : ¬ nI (100 + o) < nI 100))]
  exact ⟨rfl, rfl⟩
theorem is_Rule {m : mj_m} {s k : Nat} (hs : s < 8) (hk : k < 7) (h : m.1 (79 + 2 * s) 1 = nI k) (N : Nat) : f_X6_isRule N (79 + 2 * s) m = some 1 ∧ f_X6_isRow N (79 + 2 * s) m = some 0 := by
  unfold f_X6_isRule f_X6_isRow
  rw [mj_ck_t (o6 hs), mj_ck_t (o6 hs), h, if_neg (nI_pos (by omega)), if_neg (show ¬ 100 ≤ nI k from (nI_ge (by omega) (by omega) : ¬ nI 100 ≤ nI k)), if_pos (show nI k < 100 from (nI_lt (by omega) (by omega) : nI k < nI 100))]
  exact ⟨rfl, rfl⟩
theorem w9 {m : mj_m} {s : Nat} (hs : s < 8) (N : Nat) (w : Int32) : f_X9_wants N (nI s) w m = if m.1 110 s = 3 - w then some (-2) else if m.1 110 s = 0 then some (-3) else some 0 := by
  have q : f_X9_isShelf N (nI s) m = some 1 := by
    rcases isSh N (nI s) m with a | ⟨_, _, _, a⟩
    · exfalso
      unfold f_X8_isShelf at a
      rw [if_neg (nI_pos (by omega)), if_neg (show ¬ 8 ≤ nI s from (nI_ge hs (by omega) : ¬ nI 8 ≤ nI s))] at a
      exact absurd a (by decide)
    · exact a
  unfold f_X9_wants
  rw [q, bind_some', if_neg (by decide), mj_ck_t (bb_110 hs), nI_clamp (by omega)]
theorem w9_n {v : Int32} {m : mj_m} (N : Nat) (h : f_X8_isShelf N v m = some 0) (w : Int32) (m' : mj_m) : f_X9_wants N v w m' = some (-1) := by
  unfold f_X9_wants
  rw [isSh9 N v m, h]; rfl
theorem lk_row {m : mj_m} (h : RS m) (N : Nat) (v : Int32) : (∃ r, 1 ≤ r ∧ r ≤ 3 ∧ f_X8_lacksRow N v m = some (nI r) ∧ ∀ m' : mj_m, (∀ s, s < 8 → m'.1 110 s = m.1 110 s) → f_X9_wants N v 1 m' = some (-(nI r))) ∨
    ∃ s o n, s < 8 ∧ v = nI s ∧ RowS m s o n ∧ f_X8_lacksRow N v m = some 0 ∧ ∀ m' : mj_m, (∀ s, s < 8 → m'.1 110 s = m.1 110 s) → f_X9_wants N v 1 m' = some 0 := by
  rcases isSh N v m with a | ⟨s, hs, rfl, a⟩
  · exact Or.inl ⟨1, by omega, by omega, by unfold f_X8_lacksRow; rw [a]; rfl, fun m' _ => w9_n N a 1 m'⟩
  · rcases sh_cases (h s hs) with b | ⟨o, n, b⟩ | ⟨k, c, b⟩
    · obtain ⟨c1, c2⟩ := is_N hs b.2.1 N
      refine Or.inl ⟨3, by omega, by omega, ?_, fun m' e => ?_⟩
      · unfold f_X8_lacksRow; rw [a, bind_some', if_neg (by decide), mj_ck_t (bb_35 hs), nI_clamp (by omega), c1, bind_some', if_pos rfl, c2]; rfl
      · rw [w9 hs, e s hs, b.1]; decide
    · obtain ⟨c1, c2⟩ := is_Row hs b.1 b.2.2.2.2.2.1 N
      refine Or.inr ⟨s, o, n, hs, rfl, b, ?_, fun m' e => ?_⟩
      · unfold f_X8_lacksRow; rw [a, bind_some', if_neg (by decide), mj_ck_t (bb_35 hs), nI_clamp (by omega), c1, bind_some', if_pos rfl, c2]; rfl
      · rw [w9 hs, e s hs, b.2.2.1]; decide
    · obtain ⟨c1, c2⟩ := is_Rule hs b.1 b.2.2.2.1 N
      refine Or.inl ⟨2, by omega, by omega, ?_, fun m' e => ?_⟩
      · unfold f_X8_lacksRow; rw [a, bind_some', if_neg (by decide), mj_ck_t (bb_35 hs), nI_clamp (by omega), c1]; rfl
      · rw [w9 hs, e s hs, b.2.1]; decide
theorem lk_rule {m : mj_m} (h : RS m) (N : Nat) (v : Int32) : (∃ r, 1 ≤ r ∧ r ≤ 3 ∧ f_X8_lacksRule N v m = some (nI r) ∧ ∀ m' : mj_m, (∀ s, s < 8 → m'.1 110 s = m.1 110 s) → f_X9_wants N v 2 m' = some (-(nI r))) ∨
    ∃ s k a, s < 8 ∧ v = nI s ∧ RuleS m s k a ∧ f_X8_lacksRule N v m = some 0 ∧ ∀ m' : mj_m, (∀ s, s < 8 → m'.1 110 s = m.1 110 s) → f_X9_wants N v 2 m' = some 0 := by
  rcases isSh N v m with a | ⟨s, hs, rfl, a⟩
  · exact Or.inl ⟨1, by omega, by omega, by unfold f_X8_lacksRule; rw [a]; rfl, fun m' _ => w9_n N a 2 m'⟩
  · rcases sh_cases (h s hs) with b | ⟨o, n, b⟩ | ⟨k, c, b⟩
    · obtain ⟨c1, c2⟩ := is_N hs b.2.1 N
      refine Or.inl ⟨3, by omega, by omega, ?_, fun m' e => ?_⟩
      · unfold f_X8_lacksRule; rw [a, bind_some', if_neg (by decide), mj_ck_t (bb_35 hs), nI_clamp (by omega), c2, bind_some', if_pos rfl, c1]; rfl
      · rw [w9 hs, e s hs, b.1]; decide
    · obtain ⟨c1, c2⟩ := is_Row hs b.1 b.2.2.2.2.2.1 N
      refine Or.inl ⟨2, by omega, by omega, ?_, fun m' e => ?_⟩
      · unfold f_X8_lacksRule; rw [a, bind_some', if_neg (by decide), mj_ck_t (bb_35 hs), nI_clamp (by omega), c2]; rfl
      · rw [w9 hs, e s hs, b.2.2.1]; decide
    · obtain ⟨c1, c2⟩ := is_Rule hs b.1 b.2.2.2.1 N
      refine Or.inr ⟨s, k, c, hs, rfl, b, ?_, fun m' e => ?_⟩
      · unfold f_X8_lacksRule; rw [a, bind_some', if_neg (by decide), mj_ck_t (bb_35 hs), nI_clamp (by omega), c2, bind_some', if_pos rfl, c1]; rfl
      · rw [w9 hs, e s hs, b.2.1]; decide
theorem rf8_g {r : Nat} (h1 : 1 ≤ r) (h2 : r ≤ 7) (N : Nat) (m : mj_m) : f_X8_refuse N (nI r) m = some (-(nI r), rfu m r) := by
  rcases (by omega : r = 1 ∨ r = 2 ∨ r = 3 ∨ r = 4 ∨ r = 5 ∨ r = 6 ∨ r = 7) with rfl | rfl | rfl | rfl | rfl | rfl | rfl
  · exact rf8_1 N m
  · exact rf8_2 N m
  · exact rf8_3 N m
  · exact rf8_4 N m
  · exact rf8_5 N m
  · exact rf8_6 N m
  · exact rf8_7 N m
theorem rf9_g {r : Nat} (h1 : 1 ≤ r) (h2 : r ≤ 7) (N : Nat) (m : mj_m) : f_X9_no N (-(nI r)) m = some (-(nI r), rfm m r) := by
  rcases (by omega : r = 1 ∨ r = 2 ∨ r = 3 ∨ r = 4 ∨ r = 5 ∨ r = 6 ∨ r = 7) with rfl | rfl | rfl | rfl | rfl | rfl | rfl
  · exact rf9_1 N m
  · exact rf9_2 N m
  · exact rf9_3 N m
  · exact rf9_4 N m
  · exact rf9_5 N m
  · exact rf9_6 N m
  · exact rf9_7 N m
theorem rn0 {r : Nat} (h1 : 1 ≤ r) (h2 : r ≤ 7) : nI r ≠ 0 ∧ -(nI r) ≠ 0 := by
  rcases (by omega : r = 1 ∨ r = 2 ∨ r = 3 ∨ r = 4 ∨ r = 5 ∨ r = 6 ∨ r = 7) with rfl | rfl | rfl | rfl | rfl | rfl | rfl <;> decide
theorem rfu110 (m : mj_m) (n : Nat) : ∀ s, s < 8 → (rfu m n).1 110 s = m.1 110 s := fun _ _ => wI_n (by omega)
/-- a row's elements -/
theorem has8 {m : mj_m} {s n : Nat} (hs : s < 8) (h : m.1 (79 + 2 * s) 2 = nI n) (hn : n ≤ 120) (N : Nat) (v : Int32) : (f_X6_has N (79 + 2 * s) v m = some 0 ∧ (v < 0 ∨ nI n ≤ v) ∧ ∀ k, k < n → v ≠ nI k) ∨ ∃ j, j < n ∧ v = nI j ∧ f_X6_has N (79 + 2 * s) v m = some 1 := by
  unfold f_X6_has f_X6_has_16
  by_cases h0 : v < 0
  · rw [if_pos h0]; exact Or.inl ⟨rfl, Or.inl h0, bndn h (by omega) (Or.inl h0)⟩
  · rw [if_neg h0, mj_ck_t (o6 hs), h]
    by_cases h1 : nI n ≤ v
    · rw [if_pos h1]; exact Or.inl ⟨rfl, Or.inr h1, bndn rfl (by omega) (Or.inr h1)⟩
    · rw [if_neg h1]
      obtain ⟨k, hk, e⟩ := bnd rfl (by omega) h0 h1
      exact Or.inr ⟨k, hk, e, rfl⟩
theorem as8 {m : mj_m} {s n j : Nat} (hs : s < 8) (h : m.1 (79 + 2 * s) 2 = nI n) (hn : n ≤ 120) (hj : j < n) (N : Nat) : f_X6_asInt N (79 + 2 * s) (nI j) m = some (m.2 (80 + 2 * s) j).toInt32 := by
  unfold f_X6_asInt
  rcases has8 hs h hn N (nI j) with ⟨-, -, b⟩ | ⟨_, _, _, b⟩
  · exact absurd rfl (b j hj)
  · rw [b, bind_some', mj_ck_t (o6 hs), if_neg (by decide), mj_ck_t (bS hs (by omega)), nI_clamp (by omega)]
    rw [show 79 + 2 * s + 1 = 80 + 2 * s by omega]
theorem nI_mul (a b : Nat) : nI a * nI b = nI (a * b) := (Int32.ofNat_mul a b).symm
theorem at9 {s j : Nat} : (120 : Int32) * nI s + nI j = nI (120 * s + j) := by
  rw [show (120 : Int32) = nI 120 from rfl, nI_mul, nI_add]
theorem int9 {m : mj_m} {s j : Nat} (hs : s < 8) (hj : j < 120) (N : Nat) : f_X9_intAt N (nI s) (nI j) m = some (m.2 115 (120 * s + j)).toInt32 := by
  unfold f_X9_intAt
  rw [at9, mj_ck_t (bb_115 (by omega)), nI_clamp (by omega)]
