/-! THE IMAGE: a town becomes like another; image, restore -/
def cpF (o b c : Nat) (m : mj_m) : Nat → mj_m
  | 0 => m
  | j + 1 => mj_wI (cpF o b c m j) b (o + j) ((cpF o b c m j).1 c (o + j))
theorem cpF_at {o b c : Nat} {m : mj_m} (h : b ≠ c) : ∀ n A K, (cpF o b c m n).1 A K = if A = b ∧ o ≤ K ∧ K < o + n then m.1 c K else m.1 A K := by
  intro n
  induction n with
  | zero => intro A K; rw [if_neg (by omega)]; rfl
  | succ n ih =>
    intro A K
    show (mj_wI (cpF o b c m n) b (o + n) ((cpF o b c m n).1 c (o + n))).1 A K = _
    rw [wI_1, up_at]
    by_cases q : A = b ∧ K = o + n
    · rw [if_pos q, ih, if_neg (by omega), if_pos (by omega), q.2]
    · rw [if_neg q, ih]
      by_cases r : A = b ∧ o ≤ K ∧ K < o + n
      · rw [if_pos r, if_pos (by omega)]
      · rw [if_neg r, if_neg (by omega)]
theorem cpF_2 (o b c : Nat) (m : mj_m) : ∀ n, (cpF o b c m n).2 = m.2 := by
  intro n
  induction n with
  | zero => rfl
  | succ n ih => exact ih
theorem like1 {m : mj_m} {v0 v1 : Nat} (h : v0 ≠ v1) (h0 : mj_o 1 v0 = true) (h1 : mj_o 1 v1 = true) (hb : b01 (m.1 v1 7)) (N : Nat) : f_X1_becomeLike N v0 v1 m = some (cpF 0 v0 v1 m 8) := by
  have c7 : (cpF 0 v0 v1 m 7).1 v1 7 = m.1 v1 7 := by rw [cpF_at h, if_neg (by omega)]
  unfold f_X1_becomeLike
  rw [mj_ck_t h1, mj_ck_t h0]
  simp only [mw_eq]
  show mj_ck ((cpF 0 v0 v1 m 7).1 v1 7 == 0 || (cpF 0 v0 v1 m 7).1 v1 7 == 1) (some (mj_wI (cpF 0 v0 v1 m 7) v0 7 ((cpF 0 v0 v1 m 7).1 v1 7))) = some (cpF 0 v0 v1 m 8)
  rw [c7]
  rcases hb with q | q
  · rw [q, mj_ck_t (by decide), ← q]; exact congrArg (fun z => some (mj_wI (cpF 0 v0 v1 m 7) v0 7 z)) c7.symm
  · rw [q, mj_ck_t (by decide), ← q]; exact congrArg (fun z => some (mj_wI (cpF 0 v0 v1 m 7) v0 7 z)) c7.symm
theorem cA_two {f i : Nat} (hd : dm f i) : (∃ k, i < 10 ∧ k < 8 ∧ ∀ b d, cA b d f i = (d + i, k)) ∨ (∃ x, (x = 1 ∨ x = 2) ∧ i < 12 ∧ ∀ b d, cA b d f i = (b + x, i)) ∨ (i < 10 ∧ ∀ b d, cA b d f i = (b + 4, i)) ∨ (∃ x, (x = 5 ∨ x = 6) ∧ i < 4 ∧ ∀ b d, cA b d f i = (b + x, i)) ∨ (∃ k, 6 ≤ k ∧ k < 16 ∧ ∀ b d, cA b d f i = (b, k)) := by
  obtain ⟨d1, d2, d3, d4, d5, d6⟩ := dm_use hd
  by_cases q : f < 7
  · exact Or.inl ⟨f, d3 (by omega), by omega, fun b d => if_pos q⟩
  rcases (by omega : f = 7 ∨ f = 8 ∨ f = 9 ∨ f = 10 ∨ f = 11 ∨ f = 12 ∨ f = 13 ∨ f = 14) with rfl | rfl | rfl | rfl | rfl | rfl | rfl | rfl
  · exact Or.inr (Or.inr (Or.inl ⟨d3 (by omega), fun b d => rfl⟩))
  · exact Or.inl ⟨7, d3 (by omega), by omega, fun b d => rfl⟩
  · exact Or.inr (Or.inl ⟨1, Or.inl rfl, d2, fun b d => rfl⟩)
  · exact Or.inr (Or.inl ⟨2, Or.inr rfl, d2, fun b d => rfl⟩)
  · exact Or.inr (Or.inr (Or.inr (Or.inl ⟨5, Or.inl rfl, d6 (by omega) (by omega), fun b d => rfl⟩)))
  · exact Or.inr (Or.inr (Or.inr (Or.inl ⟨6, Or.inr rfl, d6 (by omega) (by omega), fun b d => rfl⟩)))
  · exact Or.inr (Or.inr (Or.inr (Or.inr ⟨6 + i, by omega, by have := d4 (by omega); omega, fun b d => rfl⟩)))
  · exact Or.inr (Or.inr (Or.inr (Or.inr ⟨12 + i, by omega, by have := d5 rfl; omega, fun b d => rfl⟩)))
theorem oHs : ∀ i, i < 10 → mj_o 1 (8 + i) = true ∧ mj_o 1 (25 + i) = true ∧ mj_o 1 (63 + i) = true := by decide +kernel
theorem bl_18_1 {m : mj_m} (hb : ∀ i, i < 10 → b01 (m.1 (8 + i) 7)) {N : Nat} (hN : 20 ≤ N) : ∃ m', f_X7_becomeLike_18_1 N m = some m' ∧ (∀ f i, dm f i → cg m' 18 25 f i = cg m 1 8 f i) ∧ (∀ a k, ¬ (18 ≤ a ∧ a < 35) → m'.1 a k = m.1 a k) ∧ m'.2 = m.2 := by
  have v1 : ∀ a k, ¬ (18 ≤ a ∧ a < 35) → (mj_kI (mj_kI m 2 19 0 0 12) 3 20 0 0 12).1 a k = m.1 a k := fun a k q => by rw [kI_n (by omega), kI_n (by omega)]
  obtain ⟨s, ⟨-, e2, e3, e4⟩, e5⟩ := lp_cnt (B := f_X7_becomeLike_18_1_32 N) (E := fun s => some (cpF 6 18 1 (mj_kI (mj_kI (mj_kI s.2 5 22 0 0 10) 6 23 0 0 4) 7 24 0 0 4) 10)) (c := 10) (N := N) (s0 := ((0 : Int32), mj_kI (mj_kI m 2 19 0 0 12) 3 20 0 0 12)) (fun i s => s.1 = nI i ∧ (∀ h k, h < i → k < 8 → s.2.1 (25 + h) k = m.1 (8 + h) k) ∧ (∀ a k, ¬ (25 ≤ a ∧ a < 35) → s.2.1 a k = (mj_kI (mj_kI m 2 19 0 0 12) 3 20 0 0 12).1 a k) ∧ s.2.2 = m.2) (by omega)
    ⟨rfl, fun h k hh => absurd hh (Nat.not_lt_zero h), fun _ _ _ => rfl, rfl⟩
    (fun i s hi ⟨e1, e2, e3, e4⟩ => by
      have ne : 25 + i ≠ 8 + i := by omega
      refine ⟨(nI (i + 1), cpF 0 (25 + i) (8 + i) s.2 8), ⟨rfl, fun h k hh hk => ?_, fun a k q => ?_, ?_⟩, fun κ => ?_⟩
      · rw [cpF_at ne]
        by_cases y : h = i
        · rw [if_pos (by omega), e3 (8 + i) k (by omega), v1 _ _ (by omega), y]
        · rw [if_neg (by omega)]; exact e2 h k (by omega) hk
      · rw [cpF_at ne, if_neg (by omega)]; exact e3 a k q
      · rw [cpF_2]; exact e4
      · unfold f_X7_becomeLike_18_1_32
        rw [e1, if_neg (show ¬ 10 ≤ nI i from (nI_ge hi (by omega) : ¬ nI 10 ≤ nI i)), mj_ck_t (bb_21 hi), mj_ck_t (bb_4 hi), nI_clamp (by omega), like1 ne (oHs i hi).2.1 (oHs i hi).1 (by rw [e3 (8 + i) 7 (by omega), v1 _ _ (by omega)]; exact hb i hi), bind_some', mw_eq, nI_succ])
    (fun s ⟨e1, _⟩ κ => by
      unfold f_X7_becomeLike_18_1_32
      rw [e1, if_pos (show (10 : Int32) ≤ nI 10 by decide), mj_ck_t (by decide), mw_eq, mj_ck_t (by decide), mw_eq, mj_ck_t (by decide)]
      rfl)
  refine ⟨cpF 6 18 1 (mj_kI (mj_kI (mj_kI s.2 5 22 0 0 10) 6 23 0 0 4) 7 24 0 0 4) 10, ?_, fun f i hd => ?_, fun a k q => ?_, ?_⟩
  · unfold f_X7_becomeLike_18_1
    rw [mj_ck_t (by decide), mw_eq, mj_ck_t (by decide)]
    exact e5
  · show (cpF 6 18 1 _ 10).1 (cA 18 25 f i).1 (cA 18 25 f i).2 = m.1 (cA 1 8 f i).1 (cA 1 8 f i).2
    rcases cA_two hd with ⟨k, k1, k2, k3⟩ | ⟨x, x1, x2, x3⟩ | ⟨x2, x3⟩ | ⟨x, x1, x2, x3⟩ | ⟨k, k1, k2, k3⟩
    · rw [k3, k3]
      show (cpF 6 18 1 _ 10).1 (25 + i) k = m.1 (8 + i) k
      rw [cpF_at (by decide), if_neg (by omega), kI_n (by omega), kI_n (by omega), kI_n (by omega)]
      exact e2 i k k1 k2
    · rw [x3, x3]
      show (cpF 6 18 1 _ 10).1 (18 + x) i = m.1 (1 + x) i
      rw [cpF_at (by decide), if_neg (by omega), kI_n (by omega), kI_n (by omega), kI_n (by omega), e3 _ _ (by omega)]
      rcases x1 with rfl | rfl
      · rw [kI_n (by omega)]; exact kI_e x2
      · rw [show (mj_kI (mj_kI m 2 19 0 0 12) 3 20 0 0 12).1 (18 + 2) i = (mj_kI m 2 19 0 0 12).1 3 i from kI_e x2, kI_n (by omega)]
    · rw [x3, x3]
      show (cpF 6 18 1 _ 10).1 (18 + 4) i = m.1 (1 + 4) i
      rw [cpF_at (by decide), if_neg (by omega), kI_n (by omega), kI_n (by omega), show (mj_kI s.2 5 22 0 0 10).1 (18 + 4) i = s.2.1 5 i from kI_e x2, e3 _ _ (by omega), v1 _ _ (by omega)]
    · rw [x3, x3]
      show (cpF 6 18 1 _ 10).1 (18 + x) i = m.1 (1 + x) i
      rw [cpF_at (by decide), if_neg (by omega)]
      rcases x1 with rfl | rfl
      · rw [kI_n (by omega), show (mj_kI (mj_kI s.2 5 22 0 0 10) 6 23 0 0 4).1 (18 + 5) i = (mj_kI s.2 5 22 0 0 10).1 6 i from kI_e x2, kI_n (by omega), e3 _ _ (by omega), v1 _ _ (by omega)]
      · rw [show (mj_kI (mj_kI (mj_kI s.2 5 22 0 0 10) 6 23 0 0 4) 7 24 0 0 4).1 (18 + 6) i = (mj_kI (mj_kI s.2 5 22 0 0 10) 6 23 0 0 4).1 7 i from kI_e x2, kI_n (by omega), kI_n (by omega), e3 _ _ (by omega), v1 _ _ (by omega)]
    · rw [k3, k3]
      show (cpF 6 18 1 _ 10).1 18 k = m.1 1 k
      rw [cpF_at (by decide), if_pos (by omega), kI_n (by omega), kI_n (by omega), kI_n (by omega), e3 _ _ (by omega), v1 _ _ (by omega)]
  · rw [cpF_at (by decide), if_neg (by omega), kI_n (by omega), kI_n (by omega), kI_n (by omega), e3 _ _ (by omega), v1 _ _ q]
  · rw [cpF_2]; exact e4
theorem bl_1_18 {m : mj_m} (hb : ∀ i, i < 10 → b01 (m.1 (25 + i) 7)) {N : Nat} (hN : 20 ≤ N) : ∃ m', f_X7_becomeLike_1_18 N m = some m' ∧ (∀ f i, dm f i → cg m' 1 8 f i = cg m 18 25 f i) ∧ (∀ a k, ¬ (1 ≤ a ∧ a < 18) → m'.1 a k = m.1 a k) ∧ m'.2 = m.2 := by
  have v1 : ∀ a k, ¬ (1 ≤ a ∧ a < 18) → (mj_kI (mj_kI m 19 2 0 0 12) 20 3 0 0 12).1 a k = m.1 a k := fun a k q => by rw [kI_n (by omega), kI_n (by omega)]
  obtain ⟨s, ⟨-, e2, e3, e4⟩, e5⟩ := lp_cnt (B := f_X7_becomeLike_1_18_32 N) (E := fun s => some (cpF 6 1 18 (mj_kI (mj_kI (mj_kI s.2 22 5 0 0 10) 23 6 0 0 4) 24 7 0 0 4) 10)) (c := 10) (N := N) (s0 := ((0 : Int32), mj_kI (mj_kI m 19 2 0 0 12) 20 3 0 0 12)) (fun i s => s.1 = nI i ∧ (∀ h k, h < i → k < 8 → s.2.1 (8 + h) k = m.1 (25 + h) k) ∧ (∀ a k, ¬ (8 ≤ a ∧ a < 18) → s.2.1 a k = (mj_kI (mj_kI m 19 2 0 0 12) 20 3 0 0 12).1 a k) ∧ s.2.2 = m.2) (by omega)
    ⟨rfl, fun h k hh => absurd hh (Nat.not_lt_zero h), fun _ _ _ => rfl, rfl⟩
    (fun i s hi ⟨e1, e2, e3, e4⟩ => by
      have ne : 8 + i ≠ 25 + i := by omega
      refine ⟨(nI (i + 1), cpF 0 (8 + i) (25 + i) s.2 8), ⟨rfl, fun h k hh hk => ?_, fun a k q => ?_, ?_⟩, fun κ => ?_⟩
      · rw [cpF_at ne]
        by_cases y : h = i
        · rw [if_pos (by omega), e3 (25 + i) k (by omega), v1 _ _ (by omega), y]
        · rw [if_neg (by omega)]; exact e2 h k (by omega) hk
      · rw [cpF_at ne, if_neg (by omega)]; exact e3 a k q
      · rw [cpF_2]; exact e4
      · unfold f_X7_becomeLike_1_18_32
        rw [e1, if_neg (show ¬ 10 ≤ nI i from (nI_ge hi (by omega) : ¬ nI 10 ≤ nI i)), mj_ck_t (bb_4 hi), mj_ck_t (bb_21 hi), nI_clamp (by omega), like1 ne (oHs i hi).1 (oHs i hi).2.1 (by rw [e3 (25 + i) 7 (by omega), v1 _ _ (by omega)]; exact hb i hi), bind_some', mw_eq, nI_succ])
    (fun s ⟨e1, _⟩ κ => by
      unfold f_X7_becomeLike_1_18_32
      rw [e1, if_pos (show (10 : Int32) ≤ nI 10 by decide), mj_ck_t (by decide), mw_eq, mj_ck_t (by decide), mw_eq, mj_ck_t (by decide)]
      rfl)
  refine ⟨cpF 6 1 18 (mj_kI (mj_kI (mj_kI s.2 22 5 0 0 10) 23 6 0 0 4) 24 7 0 0 4) 10, ?_, fun f i hd => ?_, fun a k q => ?_, ?_⟩
  · unfold f_X7_becomeLike_1_18
    rw [mj_ck_t (by decide), mw_eq, mj_ck_t (by decide)]
    exact e5
  · show (cpF 6 1 18 _ 10).1 (cA 1 8 f i).1 (cA 1 8 f i).2 = m.1 (cA 18 25 f i).1 (cA 18 25 f i).2
    rcases cA_two hd with ⟨k, k1, k2, k3⟩ | ⟨x, x1, x2, x3⟩ | ⟨x2, x3⟩ | ⟨x, x1, x2, x3⟩ | ⟨k, k1, k2, k3⟩
    · rw [k3, k3]
      show (cpF 6 1 18 _ 10).1 (8 + i) k = m.1 (25 + i) k
      rw [cpF_at (by decide), if_neg (by omega), kI_n (by omega), kI_n (by omega), kI_n (by omega)]
      exact e2 i k k1 k2
    · rw [x3, x3]
      show (cpF 6 1 18 _ 10).1 (1 + x) i = m.1 (18 + x) i
      rw [cpF_at (by decide), if_neg (by omega), kI_n (by omega), kI_n (by omega), kI_n (by omega), e3 _ _ (by omega)]
      rcases x1 with rfl | rfl
      · rw [kI_n (by omega)]; exact kI_e x2
      · rw [show (mj_kI (mj_kI m 19 2 0 0 12) 20 3 0 0 12).1 (1 + 2) i = (mj_kI m 19 2 0 0 12).1 20 i from kI_e x2, kI_n (by omega)]
    · rw [x3, x3]
      show (cpF 6 1 18 _ 10).1 (1 + 4) i = m.1 (18 + 4) i
      rw [cpF_at (by decide), if_neg (by omega), kI_n (by omega), kI_n (by omega), show (mj_kI s.2 22 5 0 0 10).1 (1 + 4) i = s.2.1 22 i from kI_e x2, e3 _ _ (by omega), v1 _ _ (by omega)]
    · rw [x3, x3]
      show (cpF 6 1 18 _ 10).1 (1 + x) i = m.1 (18 + x) i
      rw [cpF_at (by decide), if_neg (by omega)]
      rcases x1 with rfl | rfl
      · rw [kI_n (by omega), show (mj_kI (mj_kI s.2 22 5 0 0 10) 23 6 0 0 4).1 (1 + 5) i = (mj_kI s.2 22 5 0 0 10).1 23 i from kI_e x2, kI_n (by omega), e3 _ _ (by omega), v1 _ _ (by omega)]
      · rw [show (mj_kI (mj_kI (mj_kI s.2 22 5 0 0 10) 23 6 0 0 4) 24 7 0 0 4).1 (1 + 6) i = (mj_kI (mj_kI s.2 22 5 0 0 10) 23 6 0 0 4).1 24 i from kI_e x2, kI_n (by omega), kI_n (by omega), e3 _ _ (by omega), v1 _ _ (by omega)]
    · rw [k3, k3]
      show (cpF 6 1 18 _ 10).1 1 k = m.1 18 k
      rw [cpF_at (by decide), if_pos (by omega), kI_n (by omega), kI_n (by omega), kI_n (by omega), e3 _ _ (by omega), v1 _ _ (by omega)]
  · rw [cpF_at (by decide), if_neg (by omega), kI_n (by omega), kI_n (by omega), kI_n (by omega), e3 _ _ (by omega), v1 _ _ q]
  · rw [cpF_2]; exact e4
theorem bl_56_1 {m : mj_m} (hb : ∀ i, i < 10 → b01 (m.1 (8 + i) 7)) {N : Nat} (hN : 20 ≤ N) : ∃ m', f_X7_becomeLike_56_1 N m = some m' ∧ (∀ f i, dm f i → cg m' 56 63 f i = cg m 1 8 f i) ∧ (∀ a k, ¬ (56 ≤ a ∧ a < 73) → m'.1 a k = m.1 a k) ∧ m'.2 = m.2 := by
  have v1 : ∀ a k, ¬ (56 ≤ a ∧ a < 73) → (mj_kI (mj_kI m 2 57 0 0 12) 3 58 0 0 12).1 a k = m.1 a k := fun a k q => by rw [kI_n (by omega), kI_n (by omega)]
  obtain ⟨s, ⟨-, e2, e3, e4⟩, e5⟩ := lp_cnt (B := f_X7_becomeLike_56_1_32 N) (E := fun s => some (cpF 6 56 1 (mj_kI (mj_kI (mj_kI s.2 5 60 0 0 10) 6 61 0 0 4) 7 62 0 0 4) 10)) (c := 10) (N := N) (s0 := ((0 : Int32), mj_kI (mj_kI m 2 57 0 0 12) 3 58 0 0 12)) (fun i s => s.1 = nI i ∧ (∀ h k, h < i → k < 8 → s.2.1 (63 + h) k = m.1 (8 + h) k) ∧ (∀ a k, ¬ (63 ≤ a ∧ a < 73) → s.2.1 a k = (mj_kI (mj_kI m 2 57 0 0 12) 3 58 0 0 12).1 a k) ∧ s.2.2 = m.2) (by omega)
    ⟨rfl, fun h k hh => absurd hh (Nat.not_lt_zero h), fun _ _ _ => rfl, rfl⟩
    (fun i s hi ⟨e1, e2, e3, e4⟩ => by
      have ne : 63 + i ≠ 8 + i := by omega
      refine ⟨(nI (i + 1), cpF 0 (63 + i) (8 + i) s.2 8), ⟨rfl, fun h k hh hk => ?_, fun a k q => ?_, ?_⟩, fun κ => ?_⟩
      · rw [cpF_at ne]
        by_cases y : h = i
        · rw [if_pos (by omega), e3 (8 + i) k (by omega), v1 _ _ (by omega), y]
        · rw [if_neg (by omega)]; exact e2 h k (by omega) hk
      · rw [cpF_at ne, if_neg (by omega)]; exact e3 a k q
      · rw [cpF_2]; exact e4
      · unfold f_X7_becomeLike_56_1_32
        rw [e1, if_neg (show ¬ 10 ≤ nI i from (nI_ge hi (by omega) : ¬ nI 10 ≤ nI i)), mj_ck_t (bb_59 hi), mj_ck_t (bb_4 hi), nI_clamp (by omega), like1 ne (oHs i hi).2.2 (oHs i hi).1 (by rw [e3 (8 + i) 7 (by omega), v1 _ _ (by omega)]; exact hb i hi), bind_some', mw_eq, nI_succ])
    (fun s ⟨e1, _⟩ κ => by
      unfold f_X7_becomeLike_56_1_32
      rw [e1, if_pos (show (10 : Int32) ≤ nI 10 by decide), mj_ck_t (by decide), mw_eq, mj_ck_t (by decide), mw_eq, mj_ck_t (by decide)]
      rfl)
  refine ⟨cpF 6 56 1 (mj_kI (mj_kI (mj_kI s.2 5 60 0 0 10) 6 61 0 0 4) 7 62 0 0 4) 10, ?_, fun f i hd => ?_, fun a k q => ?_, ?_⟩
  · unfold f_X7_becomeLike_56_1
    rw [mj_ck_t (by decide), mw_eq, mj_ck_t (by decide)]
    exact e5
  · show (cpF 6 56 1 _ 10).1 (cA 56 63 f i).1 (cA 56 63 f i).2 = m.1 (cA 1 8 f i).1 (cA 1 8 f i).2
    rcases cA_two hd with ⟨k, k1, k2, k3⟩ | ⟨x, x1, x2, x3⟩ | ⟨x2, x3⟩ | ⟨x, x1, x2, x3⟩ | ⟨k, k1, k2, k3⟩
    · rw [k3, k3]
      show (cpF 6 56 1 _ 10).1 (63 + i) k = m.1 (8 + i) k
      rw [cpF_at (by decide), if_neg (by omega), kI_n (by omega), kI_n (by omega), kI_n (by omega)]
      exact e2 i k k1 k2
    · rw [x3, x3]
      show (cpF 6 56 1 _ 10).1 (56 + x) i = m.1 (1 + x) i
      rw [cpF_at (by decide), if_neg (by omega), kI_n (by omega), kI_n (by omega), kI_n (by omega), e3 _ _ (by omega)]
      rcases x1 with rfl | rfl
      · rw [kI_n (by omega)]; exact kI_e x2
      · rw [show (mj_kI (mj_kI m 2 57 0 0 12) 3 58 0 0 12).1 (56 + 2) i = (mj_kI m 2 57 0 0 12).1 3 i from kI_e x2, kI_n (by omega)]
    · rw [x3, x3]
      show (cpF 6 56 1 _ 10).1 (56 + 4) i = m.1 (1 + 4) i
      rw [cpF_at (by decide), if_neg (by omega), kI_n (by omega), kI_n (by omega), show (mj_kI s.2 5 60 0 0 10).1 (56 + 4) i = s.2.1 5 i from kI_e x2, e3 _ _ (by omega), v1 _ _ (by omega)]
    · rw [x3, x3]
      show (cpF 6 56 1 _ 10).1 (56 + x) i = m.1 (1 + x) i
      rw [cpF_at (by decide), if_neg (by omega)]
      rcases x1 with rfl | rfl
      · rw [kI_n (by omega), show (mj_kI (mj_kI s.2 5 60 0 0 10) 6 61 0 0 4).1 (56 + 5) i = (mj_kI s.2 5 60 0 0 10).1 6 i from kI_e x2, kI_n (by omega), e3 _ _ (by omega), v1 _ _ (by omega)]
      · rw [show (mj_kI (mj_kI (mj_kI s.2 5 60 0 0 10) 6 61 0 0 4) 7 62 0 0 4).1 (56 + 6) i = (mj_kI (mj_kI s.2 5 60 0 0 10) 6 61 0 0 4).1 7 i from kI_e x2, kI_n (by omega), kI_n (by omega), e3 _ _ (by omega), v1 _ _ (by omega)]
    · rw [k3, k3]
      show (cpF 6 56 1 _ 10).1 56 k = m.1 1 k
      rw [cpF_at (by decide), if_pos (by omega), kI_n (by omega), kI_n (by omega), kI_n (by omega), e3 _ _ (by omega), v1 _ _ (by omega)]
  · rw [cpF_at (by decide), if_neg (by omega), kI_n (by omega), kI_n (by omega), kI_n (by omega), e3 _ _ (by omega), v1 _ _ q]
  · rw [cpF_2]; exact e4
theorem bl_1_56 {m : mj_m} (hb : ∀ i, i < 10 → b01 (m.1 (63 + i) 7)) {N : Nat} (hN : 20 ≤ N) : ∃ m', f_X7_becomeLike_1_56 N m = some m' ∧ (∀ f i, dm f i → cg m' 1 8 f i = cg m 56 63 f i) ∧ (∀ a k, ¬ (1 ≤ a ∧ a < 18) → m'.1 a k = m.1 a k) ∧ m'.2 = m.2 := by
  have v1 : ∀ a k, ¬ (1 ≤ a ∧ a < 18) → (mj_kI (mj_kI m 57 2 0 0 12) 58 3 0 0 12).1 a k = m.1 a k := fun a k q => by rw [kI_n (by omega), kI_n (by omega)]
  obtain ⟨s, ⟨-, e2, e3, e4⟩, e5⟩ := lp_cnt (B := f_X7_becomeLike_1_56_32 N) (E := fun s => some (cpF 6 1 56 (mj_kI (mj_kI (mj_kI s.2 60 5 0 0 10) 61 6 0 0 4) 62 7 0 0 4) 10)) (c := 10) (N := N) (s0 := ((0 : Int32), mj_kI (mj_kI m 57 2 0 0 12) 58 3 0 0 12)) (fun i s => s.1 = nI i ∧ (∀ h k, h < i → k < 8 → s.2.1 (8 + h) k = m.1 (63 + h) k) ∧ (∀ a k, ¬ (8 ≤ a ∧ a < 18) → s.2.1 a k = (mj_kI (mj_kI m 57 2 0 0 12) 58 3 0 0 12).1 a k) ∧ s.2.2 = m.2) (by omega)
    ⟨rfl, fun h k hh => absurd hh (Nat.not_lt_zero h), fun _ _ _ => rfl, rfl⟩
    (fun i s hi ⟨e1, e2, e3, e4⟩ => by
      have ne : 8 + i ≠ 63 + i := by omega
      refine ⟨(nI (i + 1), cpF 0 (8 + i) (63 + i) s.2 8), ⟨rfl, fun h k hh hk => ?_, fun a k q => ?_, ?_⟩, fun κ => ?_⟩
      · rw [cpF_at ne]
        by_cases y : h = i
        · rw [if_pos (by omega), e3 (63 + i) k (by omega), v1 _ _ (by omega), y]
        · rw [if_neg (by omega)]; exact e2 h k (by omega) hk
      · rw [cpF_at ne, if_neg (by omega)]; exact e3 a k q
      · rw [cpF_2]; exact e4
      · unfold f_X7_becomeLike_1_56_32
        rw [e1, if_neg (show ¬ 10 ≤ nI i from (nI_ge hi (by omega) : ¬ nI 10 ≤ nI i)), mj_ck_t (bb_4 hi), mj_ck_t (bb_59 hi), nI_clamp (by omega), like1 ne (oHs i hi).1 (oHs i hi).2.2 (by rw [e3 (63 + i) 7 (by omega), v1 _ _ (by omega)]; exact hb i hi), bind_some', mw_eq, nI_succ])
    (fun s ⟨e1, _⟩ κ => by
      unfold f_X7_becomeLike_1_56_32
      rw [e1, if_pos (show (10 : Int32) ≤ nI 10 by decide), mj_ck_t (by decide), mw_eq, mj_ck_t (by decide), mw_eq, mj_ck_t (by decide)]
      rfl)
  refine ⟨cpF 6 1 56 (mj_kI (mj_kI (mj_kI s.2 60 5 0 0 10) 61 6 0 0 4) 62 7 0 0 4) 10, ?_, fun f i hd => ?_, fun a k q => ?_, ?_⟩
  · unfold f_X7_becomeLike_1_56
    rw [mj_ck_t (by decide), mw_eq, mj_ck_t (by decide)]
    exact e5
  · show (cpF 6 1 56 _ 10).1 (cA 1 8 f i).1 (cA 1 8 f i).2 = m.1 (cA 56 63 f i).1 (cA 56 63 f i).2
    rcases cA_two hd with ⟨k, k1, k2, k3⟩ | ⟨x, x1, x2, x3⟩ | ⟨x2, x3⟩ | ⟨x, x1, x2, x3⟩ | ⟨k, k1, k2, k3⟩
    · rw [k3, k3]
      show (cpF 6 1 56 _ 10).1 (8 + i) k = m.1 (63 + i) k
      rw [cpF_at (by decide), if_neg (by omega), kI_n (by omega), kI_n (by omega), kI_n (by omega)]
      exact e2 i k k1 k2
    · rw [x3, x3]
      show (cpF 6 1 56 _ 10).1 (1 + x) i = m.1 (56 + x) i
      rw [cpF_at (by decide), if_neg (by omega), kI_n (by omega), kI_n (by omega), kI_n (by omega), e3 _ _ (by omega)]
      rcases x1 with rfl | rfl
      · rw [kI_n (by omega)]; exact kI_e x2
      · rw [show (mj_kI (mj_kI m 57 2 0 0 12) 58 3 0 0 12).1 (1 + 2) i = (mj_kI m 57 2 0 0 12).1 58 i from kI_e x2, kI_n (by omega)]
    · rw [x3, x3]
      show (cpF 6 1 56 _ 10).1 (1 + 4) i = m.1 (56 + 4) i
      rw [cpF_at (by decide), if_neg (by omega), kI_n (by omega), kI_n (by omega), show (mj_kI s.2 60 5 0 0 10).1 (1 + 4) i = s.2.1 60 i from kI_e x2, e3 _ _ (by omega), v1 _ _ (by omega)]
    · rw [x3, x3]
      show (cpF 6 1 56 _ 10).1 (1 + x) i = m.1 (56 + x) i
      rw [cpF_at (by decide), if_neg (by omega)]
      rcases x1 with rfl | rfl
      · rw [kI_n (by omega), show (mj_kI (mj_kI s.2 60 5 0 0 10) 61 6 0 0 4).1 (1 + 5) i = (mj_kI s.2 60 5 0 0 10).1 61 i from kI_e x2, kI_n (by omega), e3 _ _ (by omega), v1 _ _ (by omega)]
      · rw [show (mj_kI (mj_kI (mj_kI s.2 60 5 0 0 10) 61 6 0 0 4) 62 7 0 0 4).1 (1 + 6) i = (mj_kI (mj_kI s.2 60 5 0 0 10) 61 6 0 0 4).1 62 i from kI_e x2, kI_n (by omega), kI_n (by omega), e3 _ _ (by omega), v1 _ _ (by omega)]
    · rw [k3, k3]
      show (cpF 6 1 56 _ 10).1 1 k = m.1 56 k
      rw [cpF_at (by decide), if_pos (by omega), kI_n (by omega), kI_n (by omega), kI_n (by omega), e3 _ _ (by omega), v1 _ _ (by omega)]
  · rw [cpF_at (by decide), if_neg (by omega), kI_n (by omega), kI_n (by omega), kI_n (by omega), e3 _ _ (by omega), v1 _ _ q]
  · rw [cpF_2]; exact e4
/-- what stands beside the town, its image and the faults -/
def okQ (a k : Nat) : Prop := (75 ≤ a ∧ a ≤ 77) ∨ (79 ≤ a ∧ a < 95) ∨ (a = 95 ∧ k = 54) ∨ a = 96 ∨ (110 ≤ a ∧ a ≤ 114) ∨ a = 117 ∨ a = 127
theorem Rel_Q {m m' : mj_m} {t' : aT} {u' : Nat → Int32} (h : Rel m) (h1 : RT m' t' u') (h2 : RP m') (h3 : RF m') (e : Eqs okQ m m') (hb : RB m') : Rel m' := by
  obtain ⟨-, -, -, h4, h5, ⟨n, hn, a1, a2, a3⟩, h7⟩ := h
  refine ⟨⟨t', u', h1⟩, h2, h3, ?_, ?_, ⟨n, hn, ?_, ?_, ?_⟩, ?_, hb⟩
  · intro i hi
    rw [e.1 96 i (by unfold okQ; omega), e.1 77 i (by unfold okQ; omega)]; exact h4 i hi
  · intro s hs
    exact ShR_same (h5 s hs) (fun a q1 q2 => e.1 a s (by unfold okQ; omega)) (fun k => e.1 _ k (by unfold okQ; omega)) (fun i hi => ⟨e.2 _ _ (by unfold okL; omega), e.2 _ _ (by unfold okL; omega)⟩)
  · rw [e.1 75 1 (by unfold okQ; omega)]; exact a1
  · rw [e.1 95 54 (by unfold okQ; omega)]; exact a2
  · intro i q1 q2
    rw [e.1 127 i (by unfold okQ; omega), e.1 76 i (by unfold okQ; omega)]; exact a3 i q1 q2
  · intro i hi
    rw [e.1 117 i (by unfold okQ; omega)]; exact h7.1 i hi
theorem RB_R {m : mj_m} (h : Rel m) : RB m := h.2.2.2.2.2.2.2
theorem Ld_n {m0 m : mj_m} {A : Nat} (h : LdI m0 m A 132) {b k : Nat} (q : ¬ (97 ≤ b ∧ b ≤ 109)) (q2 : ¬ (b = 95 ∧ k < 10)) : m.1 b k = m0.1 b k := h.2.1 b k (fun j hj e => by
  have := src_rng j hj
  rw [e] at this
  dsimp only at this
  omega)
theorem ca_image {m : mj_m} (h : Rel m) {N : Nat} (hN : 20 ≤ N) : Both (f_X8_image N) (f_X9_image N) m := by
  obtain ⟨t, u, h1⟩ := h.1
  have hG := h1.1
  obtain ⟨m1, a1, a2, a3, a4⟩ := bl_18_1 (m := m) (fun i hi => (RB_R h i hi).1) hN
  obtain ⟨m2, b1, b2⟩ := all_save (A := 119) (by omega) (mj_wI (mj_wI m1 0 10 1) 95 55 1) hN
  have v : ∀ a k, ¬ (18 ≤ a ∧ a < 35) → ¬ (a = 0 ∧ k = 10) → ¬ (a = 95 ∧ k = 55) → a ≠ 119 → m2.1 a k = m.1 a k := fun a k q1 q2 q3 q4 => by
    rw [b2.2.1 a k q4, wI_n (by omega), wI_n (by omega), a3 a k q1]
  have r : RT m2 t u := ⟨hG, RT_c hG h1.2.1 (fun a k q => v a k (by unfold okC at q; omega) (by unfold okC at q; omega) (by unfold okC at q; omega) (by unfold okC at q; omega)), RT_m hG h1.2.2 (fun a k q => v a k (by unfold okM at q; omega) (by unfold okM at q; omega) (by unfold okM at q; omega) (by unfold okM at q; omega))⟩
  have v10 : m2.1 0 10 = 1 := by rw [b2.2.1 0 10 (by omega), wI_n (by omega), wI_e]
  refine ⟨u 1, mj_wI m1 0 10 1, m2, ?_, ?_, Rel_Q h r ⟨?_, Or.inr ⟨v10, t, u, hG, ?_, ?_⟩⟩ ?_ ⟨fun a k q => ?_, fun a k q => ?_⟩ (fun i hi => ⟨?_, ?_⟩)⟩
  · unfold f_X8_image
    rw [a1, bind_some', mw_eq, wI_n (by omega), a3 1 13 (by omega), x_year h1.2.1]
  · unfold f_X9_image
    rw [mw_eq, b1, bind_some', y_year r.2.2]
  · rw [v10, b2.2.1 95 55 (by omega), wI_e]
  · exact Rep_same h1.2.1 hG (fun f i hd => by
      rw [← a2 f i hd]
      have := cA_rng (b := 18) (d := 25) rfl hd
      show m2.1 _ _ = m1.1 _ _
      rw [b2.2.1 _ _ (by omega), wI_n (by omega), wI_n (by omega)])
  · exact Rep_same h1.2.2 hG (fun f i hd => by
      rw [kept_g b2 f i hd]
      have := mA_rng hd
      show (mj_wI (mj_wI m1 0 10 1) 95 55 1).1 _ _ = m.1 _ _
      rw [wI_n (by omega), wI_n (by omega), a3 _ _ (by omega)])
  · show m2.1 95 10 = m2.1 0 11
    rw [v 95 10 (by omega) (by omega) (by omega) (by omega), v 0 11 (by omega) (by omega) (by omega) (by omega)]; exact h.2.2.1
  · unfold okQ at q; exact v a k (by omega) (by omega) (by omega) (by omega)
  · rw [b2.2.2]; show m1.2 a k = _; rw [a4]
  · rw [v (8 + i) 7 (by omega) (by omega) (by omega) (by omega)]; exact (RB_R h i hi).1
  · have := a2 8 i ⟨by omega, by show i < 10; omega⟩
    have e : m1.1 (25 + i) 7 = m.1 (8 + i) 7 := this
    rw [b2.2.1 _ _ (by omega), wI_n (by omega), wI_n (by omega), e]; exact (RB_R h i hi).1
theorem ca_restore {m : mj_m} (h : Rel m) {N : Nat} (hN : 20 ≤ N) : Both (f_X8_restore N) (f_X9_restore N) m := by
  obtain ⟨p1, p2⟩ := h.2.1
  rcases p2 with p2 | ⟨p2, tp, up, hP, g8, g9⟩
  · refine ⟨-6, rfu m 6, _, ?_, ?_, Rel_rf h 6⟩
    · unfold f_X8_restore; rw [p2, if_pos rfl, rf8_6]; rfl
    · unfold f_X9_restore; rw [show (rfu m 6).1 95 55 = 0 by unfold rfu; rw [wI_n (by omega), p1, p2], if_pos rfl, rf9_6]; rfl
  obtain ⟨t, u, h1⟩ := h.1
  obtain ⟨m1, a1, a2, a3, a4⟩ := bl_1_18 (m := m) (fun i hi => (RB_R h i hi).2) hN
  obtain ⟨m2, b1, b2⟩ := all_load (A := 119) (by omega) m1 hN
  have v : ∀ a k, ¬ (1 ≤ a ∧ a < 18) → ¬ (97 ≤ a ∧ a ≤ 109) → ¬ (a = 95 ∧ k < 10) → m2.1 a k = m.1 a k := fun a k q1 q2 q3 => by
    rw [Ld_n b2 q2 q3, a3 a k q1]
  have r1 : Rep (cg m1 1 8) tp up := Rep_same g8 hP (fun f i hd => a2 f i hd)
  have r2 : Rep (cg m2 1 8) tp up := Rep_same r1 hP (fun f i hd => by
    have := cA_rng (b := 1) (d := 8) rfl hd
    exact Ld_n b2 (by omega) (by omega))
  have r3 : Rep (mg m2) tp up := Rep_same g9 hP (fun f i hd => by
    rw [back_g b2 f i hd]
    have := kA_rng (a := 119) hd
    exact a3 _ _ (by omega))
  refine ⟨up 1, m1, m2, ?_, ?_, Rel_Q h ⟨hP, r2, r3⟩ ⟨?_, Or.inr ⟨?_, tp, up, hP, ?_, ?_⟩⟩ ?_ ⟨fun a k q => ?_, fun a k q => ?_⟩ (fun i hi => ⟨?_, ?_⟩)⟩
  · unfold f_X8_restore
    rw [p2, if_neg (by decide), a1, bind_some', x_year r1]
  · unfold f_X9_restore
    rw [a3 95 55 (by omega), p1, p2, if_neg (by decide), b1, bind_some', y_year r3]
  · rw [v 95 55 (by omega) (by omega) (by omega), v 0 10 (by omega) (by omega) (by omega)]; exact p1
  · rw [v 0 10 (by omega) (by omega) (by omega)]; exact p2
  · exact Rep_same g8 hP (fun f i hd => by
      have := cA_rng (b := 18) (d := 25) rfl hd
      exact v _ _ (by omega) (by omega) (by omega))
  · exact Rep_same g9 hP (fun f i hd => by
      have := kA_rng (a := 119) hd
      exact v _ _ (by omega) (by omega) (by omega))
  · show m2.1 95 10 = m2.1 0 11
    rw [v 95 10 (by omega) (by omega) (by omega), v 0 11 (by omega) (by omega) (by omega)]; exact h.2.2.1
  · unfold okQ at q; exact v a k (by omega) (by omega) (by omega)
  · rw [b2.2.2, a4]
  · have := a2 8 i ⟨by omega, by show i < 10; omega⟩
    have e : m1.1 (8 + i) 7 = m.1 (25 + i) 7 := this
    rw [Ld_n b2 (by omega) (by omega), e]; exact (RB_R h i hi).2
  · rw [v _ _ (by omega) (by omega) (by omega)]; exact (RB_R h i hi).2
