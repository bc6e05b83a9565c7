/-! THE LIBRARY of the last third: loops as sequences, reading behind a write, numbers -/
theorem lp_for {S A : Type} {B : (S → Option A) → S → Option A} (s : Nat → S) {c N : Nat} {out : Option A} (hN : c < N) (hs : ∀ i, i < c → ∀ k, B k (s i) = k (s (i + 1))) (he : ∀ k, B k (s c) = out) : mj_lp N B (s 0) = out := by
  have H : ∀ (j N : Nat), j ≤ c → c - j < N → mj_lp N B (s j) = out := by
    intro j
    induction h : c - j generalizing j with
    | zero =>
      intro N hj hN
      obtain ⟨n, rfl⟩ : ∃ n, N = n + 1 := ⟨N - 1, by omega⟩
      rw [show j = c by omega]
      exact he _
    | succ d ih =>
      intro N hj hN
      obtain ⟨n, rfl⟩ : ∃ n, N = n + 1 := ⟨N - 1, by omega⟩
      show B (mj_lp n B) (s j) = out
      rw [hs j (by omega)]
      exact ih (j + 1) (by omega) n (by omega) (by omega)
  exact H 0 N (Nat.zero_le _) (by omega)
/-- a loop that ends where it comes to, told by an invariant and a measure -/
theorem lp_inv {S A : Type} {B : (S → Option A) → S → Option A} (I : S → Prop) (μ : S → Nat) {Po : Option A → Prop} (hB : ∀ s, I s → (∀ k, Po (B k s)) ∨ ∃ s', I s' ∧ μ s' < μ s ∧ ∀ k, B k s = k s') : ∀ (N : Nat) (s : S), I s → μ s < N → Po (mj_lp N B s) := by
  intro N
  induction N with
  | zero => intro s _ h; exact absurd h (Nat.not_lt_zero _)
  | succ n ih =>
    intro s hI hm
    show Po (B (mj_lp n B) s)
    rcases hB s hI with h | ⟨s', h1, h2, h3⟩
    · exact h _
    · rw [h3]; exact ih s' h1 (by omega)
theorem mw_eq {B A : Type} (x : B) (f : B → Option A) : mj_mw x f = f x := rfl
theorem up_at {α : Type} (f : Nat → Nat → α) (h k : Nat) (v : α) (a b : Nat) : mj_up f h k v a b = if a = h ∧ b = k then v else f a b := rfl
theorem up_h {α : Type} (f : Nat → Nat → α) (h k : Nat) (v : α) (b : Nat) : mj_up f h k v h b = if b = k then v else f h b := by simp [mj_up]
theorem up_n {α : Type} (f : Nat → Nat → α) {h a : Nat} (k : Nat) (v : α) (b : Nat) (q : a ≠ h) : mj_up f h k v a b = f a b := by simp [mj_up, q]
theorem wI_1 (m : mj_m) (h k : Nat) (v : Int32) : (mj_wI m h k v).1 = mj_up m.1 h k v := rfl
theorem wI_2 (m : mj_m) (h k : Nat) (v : Int32) : (mj_wI m h k v).2 = m.2 := rfl
theorem wL_1 (m : mj_m) (h k : Nat) (v : Int64) : (mj_wL m h k v).1 = m.1 := rfl
theorem wL_2 (m : mj_m) (h k : Nat) (v : Int64) : (mj_wL m h k v).2 = mj_up m.2 h k v := rfl
theorem kI_1 (m : mj_m) (a b c d n : Nat) : (mj_kI m a b c d n).1 = mj_cpy m.1 a b c d n := rfl
theorem kI_2 (m : mj_m) (a b c d n : Nat) : (mj_kI m a b c d n).2 = m.2 := rfl
theorem kL_1 (m : mj_m) (a b c d n : Nat) : (mj_kL m a b c d n).1 = m.1 := rfl
theorem kL_2 (m : mj_m) (a b c d n : Nat) : (mj_kL m a b c d n).2 = mj_cpy m.2 a b c d n := rfl
theorem cpy_at {α : Type} (f : Nat → Nat → α) (a b c d n x y : Nat) : mj_cpy f a b c d n x y = if x = b then (if d ≤ y ∧ y < d + n then f a (c + (y - d)) else f b y) else f x y := rfl
/-- a place of a row, the index a count -/
theorem b_nI {kd a n j : Nat} (ha : a < 128) (hs : mj_sh a = (kd, n)) (hj : j < n) (hn : n < 2 ^ 31) : mj_b kd a (nI j) = true := by
  have h1 := nI_toInt (n := j) (by omega)
  simp only [mj_b, Bool.and_eq_true, decide_eq_true_eq]
  rw [hs, h1]
  exact ⟨ha, rfl, by omega, by show (j : Int) < (n : Int); omega⟩
theorem nI_lit0 : (0 : Int32) = nI 0 := rfl
theorem nI_lit1 : (1 : Int32) = nI 1 := rfl
theorem nI_neg (n : Nat) (h : n < 2 ^ 31) : nI n ≠ -1 := by
  intro q
  have h1 := nI_toInt h
  rw [q] at h1
  have h2 : (-1 : Int32).toInt = -1 := by decide
  omega
theorem bb_2 {j : Nat} (h : j < 12) : mj_b 0 2 (nI j) = true := b_nI (by decide) rfl h (by decide)
theorem bb_3 {j : Nat} (h : j < 12) : mj_b 0 3 (nI j) = true := b_nI (by decide) rfl h (by decide)
theorem bb_4 {j : Nat} (h : j < 10) : mj_b 2 4 (nI j) = true := b_nI (by decide) rfl h (by decide)
theorem bb_5 {j : Nat} (h : j < 10) : mj_b 0 5 (nI j) = true := b_nI (by decide) rfl h (by decide)
theorem bb_6 {j : Nat} (h : j < 4) : mj_b 0 6 (nI j) = true := b_nI (by decide) rfl h (by decide)
theorem bb_7 {j : Nat} (h : j < 4) : mj_b 0 7 (nI j) = true := b_nI (by decide) rfl h (by decide)
theorem bb_19 {j : Nat} (h : j < 12) : mj_b 0 19 (nI j) = true := b_nI (by decide) rfl h (by decide)
theorem bb_20 {j : Nat} (h : j < 12) : mj_b 0 20 (nI j) = true := b_nI (by decide) rfl h (by decide)
theorem bb_21 {j : Nat} (h : j < 10) : mj_b 2 21 (nI j) = true := b_nI (by decide) rfl h (by decide)
theorem bb_22 {j : Nat} (h : j < 10) : mj_b 0 22 (nI j) = true := b_nI (by decide) rfl h (by decide)
theorem bb_23 {j : Nat} (h : j < 4) : mj_b 0 23 (nI j) = true := b_nI (by decide) rfl h (by decide)
theorem bb_24 {j : Nat} (h : j < 4) : mj_b 0 24 (nI j) = true := b_nI (by decide) rfl h (by decide)
theorem bb_35 {j : Nat} (h : j < 8) : mj_b 3 35 (nI j) = true := b_nI (by decide) rfl h (by decide)
theorem bb_37 {j : Nat} (h : j < 10) : mj_b 0 37 (nI j) = true := b_nI (by decide) rfl h (by decide)
theorem bb_38 {j : Nat} (h : j < 10) : mj_b 0 38 (nI j) = true := b_nI (by decide) rfl h (by decide)
theorem bb_39 {j : Nat} (h : j < 10) : mj_b 0 39 (nI j) = true := b_nI (by decide) rfl h (by decide)
theorem bb_40 {j : Nat} (h : j < 1024) : mj_b 0 40 (nI j) = true := b_nI (by decide) rfl h (by decide)
theorem bb_41 {j : Nat} (h : j < 1024) : mj_b 0 41 (nI j) = true := b_nI (by decide) rfl h (by decide)
theorem bb_42 {j : Nat} (h : j < 1024) : mj_b 1 42 (nI j) = true := b_nI (by decide) rfl h (by decide)
theorem bb_43 {j : Nat} (h : j < 1024) : mj_b 1 43 (nI j) = true := b_nI (by decide) rfl h (by decide)
theorem bb_44 {j : Nat} (h : j < 8) : mj_b 1 44 (nI j) = true := b_nI (by decide) rfl h (by decide)
theorem bb_46 {j : Nat} (h : j < 10) : mj_b 0 46 (nI j) = true := b_nI (by decide) rfl h (by decide)
theorem bb_47 {j : Nat} (h : j < 10) : mj_b 0 47 (nI j) = true := b_nI (by decide) rfl h (by decide)
theorem bb_49 {j : Nat} (h : j < 10) : mj_b 0 49 (nI j) = true := b_nI (by decide) rfl h (by decide)
theorem bb_50 {j : Nat} (h : j < 10) : mj_b 0 50 (nI j) = true := b_nI (by decide) rfl h (by decide)
theorem bb_51 {j : Nat} (h : j < 10) : mj_b 0 51 (nI j) = true := b_nI (by decide) rfl h (by decide)
theorem bb_52 {j : Nat} (h : j < 5) : mj_b 0 52 (nI j) = true := b_nI (by decide) rfl h (by decide)
theorem bb_53 {j : Nat} (h : j < 5) : mj_b 0 53 (nI j) = true := b_nI (by decide) rfl h (by decide)
theorem bb_54 {j : Nat} (h : j < 32) : mj_b 1 54 (nI j) = true := b_nI (by decide) rfl h (by decide)
theorem bb_57 {j : Nat} (h : j < 12) : mj_b 0 57 (nI j) = true := b_nI (by decide) rfl h (by decide)
theorem bb_58 {j : Nat} (h : j < 12) : mj_b 0 58 (nI j) = true := b_nI (by decide) rfl h (by decide)
theorem bb_59 {j : Nat} (h : j < 10) : mj_b 2 59 (nI j) = true := b_nI (by decide) rfl h (by decide)
theorem bb_60 {j : Nat} (h : j < 10) : mj_b 0 60 (nI j) = true := b_nI (by decide) rfl h (by decide)
theorem bb_61 {j : Nat} (h : j < 4) : mj_b 0 61 (nI j) = true := b_nI (by decide) rfl h (by decide)
theorem bb_62 {j : Nat} (h : j < 4) : mj_b 0 62 (nI j) = true := b_nI (by decide) rfl h (by decide)
theorem bb_73 {j : Nat} (h : j < 120) : mj_b 0 73 (nI j) = true := b_nI (by decide) rfl h (by decide)
theorem bb_74 {j : Nat} (h : j < 5) : mj_b 0 74 (nI j) = true := b_nI (by decide) rfl h (by decide)
theorem bb_76 {j : Nat} (h : j < 20) : mj_b 0 76 (nI j) = true := b_nI (by decide) rfl h (by decide)
theorem bb_77 {j : Nat} (h : j < 8) : mj_b 0 77 (nI j) = true := b_nI (by decide) rfl h (by decide)
theorem bb_78 {j : Nat} (h : j < 10) : mj_b 0 78 (nI j) = true := b_nI (by decide) rfl h (by decide)
theorem bb_80 {j : Nat} (h : j < 120) : mj_b 1 80 (nI j) = true := b_nI (by decide) rfl h (by decide)
theorem bb_82 {j : Nat} (h : j < 120) : mj_b 1 82 (nI j) = true := b_nI (by decide) rfl h (by decide)
theorem bb_84 {j : Nat} (h : j < 120) : mj_b 1 84 (nI j) = true := b_nI (by decide) rfl h (by decide)
theorem bb_86 {j : Nat} (h : j < 120) : mj_b 1 86 (nI j) = true := b_nI (by decide) rfl h (by decide)
theorem bb_88 {j : Nat} (h : j < 120) : mj_b 1 88 (nI j) = true := b_nI (by decide) rfl h (by decide)
theorem bb_90 {j : Nat} (h : j < 120) : mj_b 1 90 (nI j) = true := b_nI (by decide) rfl h (by decide)
theorem bb_92 {j : Nat} (h : j < 120) : mj_b 1 92 (nI j) = true := b_nI (by decide) rfl h (by decide)
theorem bb_94 {j : Nat} (h : j < 120) : mj_b 1 94 (nI j) = true := b_nI (by decide) rfl h (by decide)
theorem bb_96 {j : Nat} (h : j < 8) : mj_b 0 96 (nI j) = true := b_nI (by decide) rfl h (by decide)
theorem bb_97 {j : Nat} (h : j < 12) : mj_b 0 97 (nI j) = true := b_nI (by decide) rfl h (by decide)
theorem bb_98 {j : Nat} (h : j < 12) : mj_b 0 98 (nI j) = true := b_nI (by decide) rfl h (by decide)
theorem bb_99 {j : Nat} (h : j < 4) : mj_b 0 99 (nI j) = true := b_nI (by decide) rfl h (by decide)
theorem bb_100 {j : Nat} (h : j < 4) : mj_b 0 100 (nI j) = true := b_nI (by decide) rfl h (by decide)
theorem bb_101 {j : Nat} (h : j < 10) : mj_b 0 101 (nI j) = true := b_nI (by decide) rfl h (by decide)
theorem bb_102 {j : Nat} (h : j < 10) : mj_b 0 102 (nI j) = true := b_nI (by decide) rfl h (by decide)
theorem bb_103 {j : Nat} (h : j < 10) : mj_b 0 103 (nI j) = true := b_nI (by decide) rfl h (by decide)
theorem bb_104 {j : Nat} (h : j < 10) : mj_b 0 104 (nI j) = true := b_nI (by decide) rfl h (by decide)
theorem bb_105 {j : Nat} (h : j < 10) : mj_b 0 105 (nI j) = true := b_nI (by decide) rfl h (by decide)
theorem bb_106 {j : Nat} (h : j < 10) : mj_b 0 106 (nI j) = true := b_nI (by decide) rfl h (by decide)
theorem bb_107 {j : Nat} (h : j < 10) : mj_b 0 107 (nI j) = true := b_nI (by decide) rfl h (by decide)
theorem bb_108 {j : Nat} (h : j < 10) : mj_b 0 108 (nI j) = true := b_nI (by decide) rfl h (by decide)
theorem bb_109 {j : Nat} (h : j < 10) : mj_b 0 109 (nI j) = true := b_nI (by decide) rfl h (by decide)
theorem bb_110 {j : Nat} (h : j < 8) : mj_b 0 110 (nI j) = true := b_nI (by decide) rfl h (by decide)
theorem bb_111 {j : Nat} (h : j < 8) : mj_b 0 111 (nI j) = true := b_nI (by decide) rfl h (by decide)
theorem bb_112 {j : Nat} (h : j < 8) : mj_b 0 112 (nI j) = true := b_nI (by decide) rfl h (by decide)
theorem bb_113 {j : Nat} (h : j < 8) : mj_b 0 113 (nI j) = true := b_nI (by decide) rfl h (by decide)
theorem bb_114 {j : Nat} (h : j < 8) : mj_b 0 114 (nI j) = true := b_nI (by decide) rfl h (by decide)
theorem bb_115 {j : Nat} (h : j < 960) : mj_b 1 115 (nI j) = true := b_nI (by decide) rfl h (by decide)
theorem bb_116 {j : Nat} (h : j < 120) : mj_b 1 116 (nI j) = true := b_nI (by decide) rfl h (by decide)
theorem bb_117 {j : Nat} (h : j < 58) : mj_b 0 117 (nI j) = true := b_nI (by decide) rfl h (by decide)
theorem bb_118 {j : Nat} (h : j < 150) : mj_b 0 118 (nI j) = true := b_nI (by decide) rfl h (by decide)
theorem bb_119 {j : Nat} (h : j < 150) : mj_b 0 119 (nI j) = true := b_nI (by decide) rfl h (by decide)
theorem bb_120 {j : Nat} (h : j < 150) : mj_b 0 120 (nI j) = true := b_nI (by decide) rfl h (by decide)
theorem bb_121 {j : Nat} (h : j < 1024) : mj_b 1 121 (nI j) = true := b_nI (by decide) rfl h (by decide)
theorem bb_122 {j : Nat} (h : j < 1024) : mj_b 1 122 (nI j) = true := b_nI (by decide) rfl h (by decide)
theorem bb_123 {j : Nat} (h : j < 10) : mj_b 0 123 (nI j) = true := b_nI (by decide) rfl h (by decide)
theorem bb_124 {j : Nat} (h : j < 10) : mj_b 0 124 (nI j) = true := b_nI (by decide) rfl h (by decide)
theorem bb_125 {j : Nat} (h : j < 10) : mj_b 0 125 (nI j) = true := b_nI (by decide) rfl h (by decide)
theorem bb_126 {j : Nat} (h : j < 10) : mj_b 0 126 (nI j) = true := b_nI (by decide) rfl h (by decide)
theorem bb_127 {j : Nat} (h : j < 20) : mj_b 0 127 (nI j) = true := b_nI (by decide) rfl h (by decide)
