/-! THE REFERENCE keeps all, and takes all back -/
def srcJ (j : Nat) : Nat × Nat := if j < 12 then (97, j) else if j < 24 then (98, j - 12) else if j < 28 then (99, j - 24) else if j < 32 then (100, j - 28) else if j < 122 then (101 + (j - 32) / 10, (j - 32) % 10) else (95, j - 122)
theorem src_inj : ∀ i, i < 132 → ∀ j, j < 132 → srcJ i = srcJ j → i = j := by decide +kernel
theorem src_rng : ∀ j, j < 132 → (97 ≤ (srcJ j).1 ∧ (srcJ j).1 ≤ 109) ∨ ((srcJ j).1 = 95 ∧ (srcJ j).2 < 10) := by decide +kernel
def SvI (m0 m : mj_m) (A J : Nat) : Prop := (∀ j, j < J → m.1 A j = m0.1 (srcJ j).1 (srcJ j).2) ∧ (∀ b k, b ≠ A → m.1 b k = m0.1 b k) ∧ m.2 = m0.2
theorem b150 {A : Nat} (hA : 118 ≤ A ∧ A ≤ 120) {j : Nat} (hj : j < 150) : mj_b 0 A (nI j) = true := by
  rcases (by omega : A = 118 ∨ A = 119 ∨ A = 120) with rfl | rfl | rfl
  · exact bb_118 hj
  · exact bb_119 hj
  · exact bb_120 hj
theorem keepS {m0 m : mj_m} {A a n f : Nat} (hA : 118 ≤ A ∧ A ≤ 120) (ha : 97 ≤ a ∧ a ≤ 109) (hb : ∀ i, i < n → mj_b 0 a (nI i) = true) (hn : n ≤ 12) (hf : f + n ≤ 132) (hs : ∀ i, i < n → srcJ (f + i) = (a, i)) (h : SvI m0 m A f) {N : Nat} (hN : 20 ≤ N) : ∃ m', f_X9_keeps N a (nI n) A (nI f) 0 m = some (nI (f + n), m') ∧ SvI m0 m' A (f + n) := by
  unfold f_X9_keeps
  obtain ⟨z, ⟨-, e2⟩, e3⟩ := lp_cnt (B := f_X9_keeps_3 N a (nI n) A (nI f) 0) (E := fun z => some (nI f + nI n, z.2)) (c := n) (N := N) (s0 := (0, m)) (fun i z => z.1 = nI i ∧ SvI m0 z.2 A (f + i)) (by omega)
    ⟨rfl, h⟩
    (fun i z hi ⟨e1, e2, e3, e4⟩ => by
      refine ⟨(nI (i + 1), mj_wI z.2 A (f + i) (z.2.1 a i)), ⟨rfl, fun j hj => ?_, fun b k q => by rw [wI_n (by omega)]; exact e3 b k q, e4⟩, fun k => ?_⟩
      · by_cases y : j = f + i
        · rw [y, wI_e, hs i hi, e3 a i (by omega)]
        · rw [wI_n (by omega)]; exact e2 j (by omega)
      · unfold f_X9_keeps_3 f_X9_keeps_39
        rw [e1, if_neg (nI_ge hi (by omega)), if_pos rfl, mj_ck_t (hb i hi), nI_add, mj_ck_t (b150 hA (by omega)), nI_clamp (show i < 2 ^ 31 by omega), nI_clamp (show f + i < 2 ^ 31 by omega), mw_eq, mw_eq, nI_succ])
    (fun z ⟨e1, _⟩ k => by
      unfold f_X9_keeps_3
      rw [e1, if_pos (nI_le (by omega) (by omega))])
  exact ⟨z.2, by rw [e3, nI_add], e2⟩
theorem sc1 {m0 m : mj_m} {A j c : Nat} (hA : 118 ≤ A ∧ A ≤ 120) (hs : srcJ j = (95, c)) (h : SvI m0 m A j) : SvI m0 (mj_wI m A j (m.1 95 c)) A (j + 1) := by
  obtain ⟨e2, e3, e4⟩ := h
  refine ⟨fun i hi => ?_, fun b k q => by rw [wI_n (by omega)]; exact e3 b k q, e4⟩
  by_cases y : i = j
  · rw [y, wI_e, hs, e3 95 c (by omega)]
  · rw [wI_n (by omega)]; exact e2 i (by omega)
theorem all_save {A : Nat} (hA : 118 ≤ A ∧ A ≤ 120) (m : mj_m) {N : Nat} (hN : 20 ≤ N) : ∃ m', f_X9_all N A 0 m = some m' ∧ SvI m m' A 132 := by
  have i0 : SvI m m A 0 := ⟨fun j hj => absurd hj (Nat.not_lt_zero j), fun _ _ _ => rfl, rfl⟩
  obtain ⟨m1, a1, i1⟩ := keepS (a := 97) (n := 12) (f := 0) hA (by omega) (fun i hi => bb_97 hi) (by omega) (by omega) (by decide) i0 hN
  have b1 : f_X9_keeps N 97 12 A (0) 0 m = some (nI 12, m1) := a1
  obtain ⟨m2, a2, i2⟩ := keepS (a := 98) (n := 12) (f := 12) hA (by omega) (fun i hi => bb_98 hi) (by omega) (by omega) (by decide) i1 hN
  have b2 : f_X9_keeps N 98 12 A (nI 12) 0 m1 = some (nI 24, m2) := a2
  obtain ⟨m3, a3, i3⟩ := keepS (a := 99) (n := 4) (f := 24) hA (by omega) (fun i hi => bb_99 hi) (by omega) (by omega) (by decide) i2 hN
  have b3 : f_X9_keeps N 99 4 A (nI 24) 0 m2 = some (nI 28, m3) := a3
  obtain ⟨m4, a4, i4⟩ := keepS (a := 100) (n := 4) (f := 28) hA (by omega) (fun i hi => bb_100 hi) (by omega) (by omega) (by decide) i3 hN
  have b4 : f_X9_keeps N 100 4 A (nI 28) 0 m3 = some (nI 32, m4) := a4
  obtain ⟨m5, a5, i5⟩ := keepS (a := 101) (n := 10) (f := 32) hA (by omega) (fun i hi => bb_101 hi) (by omega) (by omega) (by decide) i4 hN
  have b5 : f_X9_keeps N 101 10 A (nI 32) 0 m4 = some (nI 42, m5) := a5
  obtain ⟨m6, a6, i6⟩ := keepS (a := 102) (n := 10) (f := 42) hA (by omega) (fun i hi => bb_102 hi) (by omega) (by omega) (by decide) i5 hN
  have b6 : f_X9_keeps N 102 10 A (nI 42) 0 m5 = some (nI 52, m6) := a6
  obtain ⟨m7, a7, i7⟩ := keepS (a := 103) (n := 10) (f := 52) hA (by omega) (fun i hi => bb_103 hi) (by omega) (by omega) (by decide) i6 hN
  have b7 : f_X9_keeps N 103 10 A (nI 52) 0 m6 = some (nI 62, m7) := a7
  obtain ⟨m8, a8, i8⟩ := keepS (a := 104) (n := 10) (f := 62) hA (by omega) (fun i hi => bb_104 hi) (by omega) (by omega) (by decide) i7 hN
  have b8 : f_X9_keeps N 104 10 A (nI 62) 0 m7 = some (nI 72, m8) := a8
  obtain ⟨m9, a9, i9⟩ := keepS (a := 105) (n := 10) (f := 72) hA (by omega) (fun i hi => bb_105 hi) (by omega) (by omega) (by decide) i8 hN
  have b9 : f_X9_keeps N 105 10 A (nI 72) 0 m8 = some (nI 82, m9) := a9
  obtain ⟨m10, a10, i10⟩ := keepS (a := 106) (n := 10) (f := 82) hA (by omega) (fun i hi => bb_106 hi) (by omega) (by omega) (by decide) i9 hN
  have b10 : f_X9_keeps N 106 10 A (nI 82) 0 m9 = some (nI 92, m10) := a10
  obtain ⟨m11, a11, i11⟩ := keepS (a := 107) (n := 10) (f := 92) hA (by omega) (fun i hi => bb_107 hi) (by omega) (by omega) (by decide) i10 hN
  have b11 : f_X9_keeps N 107 10 A (nI 92) 0 m10 = some (nI 102, m11) := a11
  obtain ⟨m12, a12, i12⟩ := keepS (a := 108) (n := 10) (f := 102) hA (by omega) (fun i hi => bb_108 hi) (by omega) (by omega) (by decide) i11 hN
  have b12 : f_X9_keeps N 108 10 A (nI 102) 0 m11 = some (nI 112, m12) := a12
  obtain ⟨m13, a13, i13⟩ := keepS (a := 109) (n := 10) (f := 112) hA (by omega) (fun i hi => bb_109 hi) (by omega) (by omega) (by decide) i12 hN
  have b13 : f_X9_keeps N 109 10 A (nI 112) 0 m12 = some (nI 122, m13) := a13
  have s0 := sc1 (j := 122) (c := 0) hA (by decide) i13
  have s1 := sc1 (j := 123) (c := 1) hA (by decide) s0
  have s2 := sc1 (j := 124) (c := 2) hA (by decide) s1
  have s3 := sc1 (j := 125) (c := 3) hA (by decide) s2
  have s4 := sc1 (j := 126) (c := 4) hA (by decide) s3
  have s5 := sc1 (j := 127) (c := 5) hA (by decide) s4
  have s6 := sc1 (j := 128) (c := 6) hA (by decide) s5
  have s7 := sc1 (j := 129) (c := 7) hA (by decide) s6
  have s8 := sc1 (j := 130) (c := 8) hA (by decide) s7
  have s9 := sc1 (j := 131) (c := 9) hA (by decide) s8
  refine ⟨_, ?_, s9⟩
  have k : ∀ j, j < 150 → mj_b 0 A (nI j) = true := fun j hj => b150 hA hj
  unfold f_X9_all f_X9_all_138
  rw [b1, bind_some']
  dsimp only
  rw [b2, bind_some']
  dsimp only
  rw [b3, bind_some']
  dsimp only
  rw [b4, bind_some']
  dsimp only
  rw [b5, bind_some']
  dsimp only
  rw [b6, bind_some']
  dsimp only
  rw [b7, bind_some']
  dsimp only
  rw [b8, bind_some']
  dsimp only
  rw [b9, bind_some']
  dsimp only
  rw [b10, bind_some']
  dsimp only
  rw [b11, bind_some']
  dsimp only
  rw [b12, bind_some']
  dsimp only
  rw [b13, bind_some']
  dsimp only
  rw [if_pos rfl, mj_ck_t (k 122 (by omega)), nI_clamp (show 122 < 2 ^ 31 by omega), mw_eq, show nI 122 + 1 = nI 123 from rfl, mj_ck_t (k 123 (by omega)), nI_clamp (show 123 < 2 ^ 31 by omega), mw_eq, show nI 122 + 2 = nI 124 from rfl, mj_ck_t (k 124 (by omega)), nI_clamp (show 124 < 2 ^ 31 by omega), mw_eq, show nI 122 + 3 = nI 125 from rfl, mj_ck_t (k 125 (by omega)), nI_clamp (show 125 < 2 ^ 31 by omega), mw_eq, show nI 122 + 4 = nI 126 from rfl, mj_ck_t (k 126 (by omega)), nI_clamp (show 126 < 2 ^ 31 by omega), mw_eq, show nI 122 + 5 = nI 127 from rfl, mj_ck_t (k 127 (by omega)), nI_clamp (show 127 < 2 ^ 31 by omega), mw_eq, show nI 122 + 6 = nI 128 from rfl, mj_ck_t (k 128 (by omega)), nI_clamp (show 128 < 2 ^ 31 by omega), mw_eq, show nI 122 + 7 = nI 129 from rfl, mj_ck_t (k 129 (by omega)), nI_clamp (show 129 < 2 ^ 31 by omega), mw_eq, show nI 122 + 8 = nI 130 from rfl, mj_ck_t (k 130 (by omega)), nI_clamp (show 130 < 2 ^ 31 by omega), mw_eq, show nI 122 + 9 = nI 131 from rfl, mj_ck_t (k 131 (by omega)), nI_clamp (show 131 < 2 ^ 31 by omega), mw_eq]
def LdI (m0 m : mj_m) (A J : Nat) : Prop := (∀ j, j < J → m.1 (srcJ j).1 (srcJ j).2 = m0.1 A j) ∧ (∀ b k, (∀ j, j < J → srcJ j ≠ (b, k)) → m.1 b k = m0.1 b k) ∧ m.2 = m0.2
theorem LdI_A {m0 m : mj_m} {A J : Nat} (hA : 118 ≤ A ∧ A ≤ 120) (hJ : J ≤ 132) (h : LdI m0 m A J) (j : Nat) : m.1 A j = m0.1 A j := h.2.1 A j (fun i hi z => by
  have := src_rng i (by omega)
  rw [z] at this
  dsimp only at this
  omega)
theorem LdI_s {m0 m : mj_m} {A f a i : Nat} (hA : 118 ≤ A ∧ A ≤ 120) (hf : f < 132) (hs : srcJ f = (a, i)) (h : LdI m0 m A f) : LdI m0 (mj_wI m a i (m0.1 A f)) A (f + 1) := by
  obtain ⟨e2, e3, e4⟩ := h
  refine ⟨fun j hj => ?_, fun b k q => ?_, e4⟩
  · by_cases y : j = f
    · rw [y, hs, wI_e]
    · have ne : srcJ j ≠ (a, i) := fun z => y (src_inj j (by omega) f hf (z.trans hs.symm))
      rw [wI_n]
      · exact e2 j (by omega)
      · by_cases z1 : (srcJ j).1 = a
        · by_cases z2 : (srcJ j).2 = i
          · exact absurd (Prod.ext z1 z2) ne
          · exact Or.inr z2
        · exact Or.inl z1
  · have ne := q f (by omega)
    rw [hs] at ne
    rw [wI_n]
    · exact e3 b k (fun j hj => q j (by omega))
    · by_cases z1 : b = a
      · by_cases z2 : k = i
        · exact absurd (by rw [z1, z2]) ne
        · exact Or.inr z2
      · exact Or.inl z1
theorem keepL {m0 m : mj_m} {A a n f : Nat} (hA : 118 ≤ A ∧ A ≤ 120) (hb : ∀ i, i < n → mj_b 0 a (nI i) = true) (hn : n ≤ 12) (hf : f + n ≤ 132) (hs : ∀ i, i < n → srcJ (f + i) = (a, i)) (h : LdI m0 m A f) {N : Nat} (hN : 20 ≤ N) : ∃ m', f_X9_keeps N a (nI n) A (nI f) 1 m = some (nI (f + n), m') ∧ LdI m0 m' A (f + n) := by
  unfold f_X9_keeps
  obtain ⟨z, ⟨-, e2⟩, e3⟩ := lp_cnt (B := f_X9_keeps_3 N a (nI n) A (nI f) 1) (E := fun z => some (nI f + nI n, z.2)) (c := n) (N := N) (s0 := (0, m)) (fun i z => z.1 = nI i ∧ LdI m0 z.2 A (f + i)) (by omega)
    ⟨rfl, h⟩
    (fun i z hi ⟨e1, e2⟩ => by
      refine ⟨(nI (i + 1), mj_wI z.2 a i (m0.1 A (f + i))), ⟨rfl, LdI_s hA (by omega) (hs i hi) e2⟩, fun k => ?_⟩
      unfold f_X9_keeps_3 f_X9_keeps_39
      rw [e1, if_neg (nI_ge hi (by omega)), if_neg (by decide), nI_add, mj_ck_t (b150 hA (by omega)), mj_ck_t (hb i hi), nI_clamp (show i < 2 ^ 31 by omega), nI_clamp (show f + i < 2 ^ 31 by omega), LdI_A hA (by omega) e2, mw_eq, mw_eq, nI_succ])
    (fun z ⟨e1, _⟩ k => by
      unfold f_X9_keeps_3
      rw [e1, if_pos (nI_le (by omega) (by omega))])
  exact ⟨z.2, by rw [e3, nI_add], e2⟩
theorem all_load {A : Nat} (hA : 118 ≤ A ∧ A ≤ 120) (m : mj_m) {N : Nat} (hN : 20 ≤ N) : ∃ m', f_X9_all N A 1 m = some m' ∧ LdI m m' A 132 := by
  have i0 : LdI m m A 0 := ⟨fun j hj => absurd hj (Nat.not_lt_zero j), fun _ _ _ => rfl, rfl⟩
  obtain ⟨m1, a1, i1⟩ := keepL (a := 97) (n := 12) (f := 0) hA (fun i hi => bb_97 hi) (by omega) (by omega) (by decide) i0 hN
  have b1 : f_X9_keeps N 97 12 A (0) 1 m = some (nI 12, m1) := a1
  obtain ⟨m2, a2, i2⟩ := keepL (a := 98) (n := 12) (f := 12) hA (fun i hi => bb_98 hi) (by omega) (by omega) (by decide) i1 hN
  have b2 : f_X9_keeps N 98 12 A (nI 12) 1 m1 = some (nI 24, m2) := a2
  obtain ⟨m3, a3, i3⟩ := keepL (a := 99) (n := 4) (f := 24) hA (fun i hi => bb_99 hi) (by omega) (by omega) (by decide) i2 hN
  have b3 : f_X9_keeps N 99 4 A (nI 24) 1 m2 = some (nI 28, m3) := a3
  obtain ⟨m4, a4, i4⟩ := keepL (a := 100) (n := 4) (f := 28) hA (fun i hi => bb_100 hi) (by omega) (by omega) (by decide) i3 hN
  have b4 : f_X9_keeps N 100 4 A (nI 28) 1 m3 = some (nI 32, m4) := a4
  obtain ⟨m5, a5, i5⟩ := keepL (a := 101) (n := 10) (f := 32) hA (fun i hi => bb_101 hi) (by omega) (by omega) (by decide) i4 hN
  have b5 : f_X9_keeps N 101 10 A (nI 32) 1 m4 = some (nI 42, m5) := a5
  obtain ⟨m6, a6, i6⟩ := keepL (a := 102) (n := 10) (f := 42) hA (fun i hi => bb_102 hi) (by omega) (by omega) (by decide) i5 hN
  have b6 : f_X9_keeps N 102 10 A (nI 42) 1 m5 = some (nI 52, m6) := a6
  obtain ⟨m7, a7, i7⟩ := keepL (a := 103) (n := 10) (f := 52) hA (fun i hi => bb_103 hi) (by omega) (by omega) (by decide) i6 hN
  have b7 : f_X9_keeps N 103 10 A (nI 52) 1 m6 = some (nI 62, m7) := a7
  obtain ⟨m8, a8, i8⟩ := keepL (a := 104) (n := 10) (f := 62) hA (fun i hi => bb_104 hi) (by omega) (by omega) (by decide) i7 hN
  have b8 : f_X9_keeps N 104 10 A (nI 62) 1 m7 = some (nI 72, m8) := a8
  obtain ⟨m9, a9, i9⟩ := keepL (a := 105) (n := 10) (f := 72) hA (fun i hi => bb_105 hi) (by omega) (by omega) (by decide) i8 hN
  have b9 : f_X9_keeps N 105 10 A (nI 72) 1 m8 = some (nI 82, m9) := a9
  obtain ⟨m10, a10, i10⟩ := keepL (a := 106) (n := 10) (f := 82) hA (fun i hi => bb_106 hi) (by omega) (by omega) (by decide) i9 hN
  have b10 : f_X9_keeps N 106 10 A (nI 82) 1 m9 = some (nI 92, m10) := a10
  obtain ⟨m11, a11, i11⟩ := keepL (a := 107) (n := 10) (f := 92) hA (fun i hi => bb_107 hi) (by omega) (by omega) (by decide) i10 hN
  have b11 : f_X9_keeps N 107 10 A (nI 92) 1 m10 = some (nI 102, m11) := a11
  obtain ⟨m12, a12, i12⟩ := keepL (a := 108) (n := 10) (f := 102) hA (fun i hi => bb_108 hi) (by omega) (by omega) (by decide) i11 hN
  have b12 : f_X9_keeps N 108 10 A (nI 102) 1 m11 = some (nI 112, m12) := a12
  obtain ⟨m13, a13, i13⟩ := keepL (a := 109) (n := 10) (f := 112) hA (fun i hi => bb_109 hi) (by omega) (by omega) (by decide) i12 hN
  have b13 : f_X9_keeps N 109 10 A (nI 112) 1 m12 = some (nI 122, m13) := a13
  have s0 := LdI_s (f := 122) (a := 95) (i := 0) hA (by omega) (by decide) i13
  have s1 := LdI_s (f := 123) (a := 95) (i := 1) hA (by omega) (by decide) s0
  have s2 := LdI_s (f := 124) (a := 95) (i := 2) hA (by omega) (by decide) s1
  have s3 := LdI_s (f := 125) (a := 95) (i := 3) hA (by omega) (by decide) s2
  have s4 := LdI_s (f := 126) (a := 95) (i := 4) hA (by omega) (by decide) s3
  have s5 := LdI_s (f := 127) (a := 95) (i := 5) hA (by omega) (by decide) s4
  have s6 := LdI_s (f := 128) (a := 95) (i := 6) hA (by omega) (by decide) s5
  have s7 := LdI_s (f := 129) (a := 95) (i := 7) hA (by omega) (by decide) s6
  have s8 := LdI_s (f := 130) (a := 95) (i := 8) hA (by omega) (by decide) s7
  have s9 := LdI_s (f := 131) (a := 95) (i := 9) hA (by omega) (by decide) s8
  refine ⟨_, ?_, s9⟩
  have k : ∀ j, j < 150 → mj_b 0 A (nI j) = true := fun j hj => b150 hA hj
  have rd : ∀ j, m13.1 A j = m.1 A j := LdI_A hA (by omega) i13
  unfold f_X9_all f_X9_all_138
  rw [b1, bind_some']
  dsimp only
  rw [b2, bind_some']
  dsimp only
  rw [b3, bind_some']
  dsimp only
  rw [b4, bind_some']
  dsimp only
  rw [b5, bind_some']
  dsimp only
  rw [b6, bind_some']
  dsimp only
  rw [b7, bind_some']
  dsimp only
  rw [b8, bind_some']
  dsimp only
  rw [b9, bind_some']
  dsimp only
  rw [b10, bind_some']
  dsimp only
  rw [b11, bind_some']
  dsimp only
  rw [b12, bind_some']
  dsimp only
  rw [b13, bind_some']
  dsimp only
  rw [if_neg (by decide), mj_ck_t (k 122 (by omega)), nI_clamp (show 122 < 2 ^ 31 by omega), rd, mw_eq, show nI 122 + 1 = nI 123 from rfl, mj_ck_t (k 123 (by omega)), nI_clamp (show 123 < 2 ^ 31 by omega), wI_n (by omega), rd, mw_eq, show nI 122 + 2 = nI 124 from rfl, mj_ck_t (k 124 (by omega)), nI_clamp (show 124 < 2 ^ 31 by omega), wI_n (by omega), wI_n (by omega), rd, mw_eq, show nI 122 + 3 = nI 125 from rfl, mj_ck_t (k 125 (by omega)), nI_clamp (show 125 < 2 ^ 31 by omega), wI_n (by omega), wI_n (by omega), wI_n (by omega), rd, mw_eq, show nI 122 + 4 = nI 126 from rfl, mj_ck_t (k 126 (by omega)), nI_clamp (show 126 < 2 ^ 31 by omega), wI_n (by omega), wI_n (by omega), wI_n (by omega), wI_n (by omega), rd, mw_eq, show nI 122 + 5 = nI 127 from rfl, mj_ck_t (k 127 (by omega)), nI_clamp (show 127 < 2 ^ 31 by omega), wI_n (by omega), wI_n (by omega), wI_n (by omega), wI_n (by omega), wI_n (by omega), rd, mw_eq, show nI 122 + 6 = nI 128 from rfl, mj_ck_t (k 128 (by omega)), nI_clamp (show 128 < 2 ^ 31 by omega), wI_n (by omega), wI_n (by omega), wI_n (by omega), wI_n (by omega), wI_n (by omega), wI_n (by omega), rd, mw_eq, show nI 122 + 7 = nI 129 from rfl, mj_ck_t (k 129 (by omega)), nI_clamp (show 129 < 2 ^ 31 by omega), wI_n (by omega), wI_n (by omega), wI_n (by omega), wI_n (by omega), wI_n (by omega), wI_n (by omega), wI_n (by omega), rd, mw_eq, show nI 122 + 8 = nI 130 from rfl, mj_ck_t (k 130 (by omega)), nI_clamp (show 130 < 2 ^ 31 by omega), wI_n (by omega), wI_n (by omega), wI_n (by omega), wI_n (by omega), wI_n (by omega), wI_n (by omega), wI_n (by omega), wI_n (by omega), rd, mw_eq, show nI 122 + 9 = nI 131 from rfl, mj_ck_t (k 131 (by omega)), nI_clamp (show 131 < 2 ^ 31 by omega), wI_n (by omega), wI_n (by omega), wI_n (by omega), wI_n (by omega), wI_n (by omega), wI_n (by omega), wI_n (by omega), wI_n (by omega), wI_n (by omega), rd, mw_eq]
/-- kept: the kept row has the town; taken back: the town is what was kept -/
theorem kA_src {a f i : Nat} (h : dm f i) : (kA a f i).1 = a ∧ (kA a f i).2 < 132 ∧ srcJ (kA a f i).2 = mA f i := by
  have d := dm_use h
  refine ⟨(kA_rng h).1, (kA_rng h).2, ?_⟩
  rcases kA_fm (a := a) h with ⟨q, e⟩ | ⟨q, e⟩ | ⟨q, e⟩ | ⟨q, e⟩ | ⟨q, e⟩ | ⟨q, e⟩ | ⟨q, e⟩ <;> rw [e] <;> dsimp only
  · have hi := d.2.2.1 q
    have : (32 + 10 * f + i - 32) / 10 = f := by omega
    have t2 : (32 + 10 * f + i - 32) % 10 = i := by omega
    unfold srcJ mA
    rw [if_neg (by omega), if_neg (by omega), if_neg (by omega), if_neg (by omega), if_pos (by omega), if_pos q, this, t2]
  · subst q; unfold srcJ; rw [if_pos (by omega)]; rfl
  · subst q; unfold srcJ; rw [if_neg (by omega), if_pos (by omega), show 12 + i - 12 = i by omega]; rfl
  · subst q
    have : i < 4 := by omega
    unfold srcJ; rw [if_neg (by omega), if_neg (by omega), if_pos (by omega), show 24 + i - 24 = i by omega]; rfl
  · subst q
    have : i < 4 := by omega
    unfold srcJ; rw [if_neg (by omega), if_neg (by omega), if_neg (by omega), if_pos (by omega), show 28 + i - 28 = i by omega]; rfl
  · subst q; unfold srcJ; rw [if_neg (by omega), if_neg (by omega), if_neg (by omega), if_neg (by omega), if_neg (by omega), show 122 + i - 122 = i by omega]; rfl
  · subst q; unfold srcJ; rw [if_neg (by omega), if_neg (by omega), if_neg (by omega), if_neg (by omega), if_neg (by omega), show 128 + i - 122 = 6 + i by omega]; rfl
theorem kept_g {m m' : mj_m} {A : Nat} (h : SvI m m' A 132) (f i : Nat) (hd : dm f i) : kg m' A f i = mg m f i := by
  obtain ⟨h1, h2, h3⟩ := kA_src (a := A) hd
  show m'.1 (kA A f i).1 (kA A f i).2 = m.1 (mA f i).1 (mA f i).2
  rw [h1, h.1 _ h2, h3]
theorem back_g {m m' : mj_m} {A : Nat} (h : LdI m m' A 132) (f i : Nat) (hd : dm f i) : mg m' f i = kg m A f i := by
  obtain ⟨h1, h2, h3⟩ := kA_src (a := A) hd
  show m'.1 (mA f i).1 (mA f i).2 = m.1 (kA A f i).1 (kA A f i).2
  rw [h1, ← h3]
  exact h.1 _ h2
/-- all is kept, then comes what changes only what is kept (and what doesn't matter), then all is back: as it was -/
theorem save_load {m m1 m2 m3 : mj_m} {A : Nat} (hA : 118 ≤ A ∧ A ≤ 120) (h1 : SvI m m1 A 132) (h2 : (∀ k, k < 132 → m2.1 A k = m1.1 A k)) (h3 : LdI m2 m3 A 132) (j : Nat) (hj : j < 132) : m3.1 (srcJ j).1 (srcJ j).2 = m.1 (srcJ j).1 (srcJ j).2 := by
  rw [h3.1 j hj, h2 j hj, h1.1 j hj]
theorem okM_src : ∀ a k, okM a k → (a = 95 ∨ k < (if a = 97 ∨ a = 98 then 12 else if a = 99 ∨ a = 100 then 4 else 10)) → ∃ j, j < 132 ∧ srcJ j = (a, k) := by
  intro a k h1 h2
  unfold okM at h1
  rcases h1 with h1 | ⟨h1, h3⟩
  · rcases (by omega : a = 97 ∨ a = 98 ∨ a = 99 ∨ a = 100 ∨ 101 ≤ a) with rfl | rfl | rfl | rfl | q
    · have : k < 12 := by simpa using h2
      exact ⟨k, by omega, by unfold srcJ; rw [if_pos (by omega)]⟩
    · have : k < 12 := by simpa using h2
      exact ⟨12 + k, by omega, by unfold srcJ; rw [if_neg (by omega), if_pos (by omega), show 12 + k - 12 = k by omega]⟩
    · have : k < 4 := by simpa using h2
      exact ⟨24 + k, by omega, by unfold srcJ; rw [if_neg (by omega), if_neg (by omega), if_pos (by omega), show 24 + k - 24 = k by omega]⟩
    · have : k < 4 := by simpa using h2
      exact ⟨28 + k, by omega, by unfold srcJ; rw [if_neg (by omega), if_neg (by omega), if_neg (by omega), if_pos (by omega), show 28 + k - 28 = k by omega]⟩
    · have hk : k < 10 := by
        rcases h2 with h2 | h2
        · omega
        · rw [if_neg (by omega), if_neg (by omega)] at h2; exact h2
      refine ⟨32 + 10 * (a - 101) + k, by omega, ?_⟩
      have e1 : (32 + 10 * (a - 101) + k - 32) / 10 = a - 101 := by omega
      have e2 : (32 + 10 * (a - 101) + k - 32) % 10 = k := by omega
      unfold srcJ
      rw [if_neg (by omega), if_neg (by omega), if_neg (by omega), if_neg (by omega), if_pos (by omega), e1, e2, show 101 + (a - 101) = a by omega]
  · exact ⟨122 + k, by omega, by unfold srcJ; rw [if_neg (by omega), if_neg (by omega), if_neg (by omega), if_neg (by omega), if_neg (by omega), show 122 + k - 122 = k by omega, h1]⟩
