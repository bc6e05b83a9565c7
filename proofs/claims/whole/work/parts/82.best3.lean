/-! BEST: the class's next turn, its least loss -/
def On52 (m m' : mj_m) : Prop := (∀ a k, a ≠ 52 → m'.1 a k = m.1 a k) ∧ m'.2 = m.2
theorem On52_r (m : mj_m) : On52 m m := ⟨fun _ _ _ => rfl, rfl⟩
theorem On52_t {m m' m'' : mj_m} (h : On52 m m') (h' : On52 m' m'') : On52 m m'' := ⟨fun a k q => (h'.1 a k q).trans (h.1 a k q), h'.2.trans h.2⟩
theorem On52_P {m m' : mj_m} (h : On52 m m') : Pd m m' := ⟨fun a k q => h.1 a k (by omega), fun a k _ => by rw [h.2]⟩
theorem swap8 {m : mj_m} {c i j : Nat} {T : Nat → Nat} (hc : c ≤ 5) (hi : i < c) (hj : j < c) (hT : ∀ k, k < c → m.1 52 k = nI (T k)) (N : Nat) : ∃ m', f_X4_swapTurns N (nI i) (nI j) m = some m' ∧ (∀ k, k < c → m'.1 52 k = nI (swF T i j k)) ∧ On52 m m' := by
  refine ⟨mj_wI (mj_wI m 52 i (nI (T j))) 52 j (nI (T i)), ?_, fun k hk => ?_, fun a k q => by rw [wI_n (by omega), wI_n (by omega)], rfl⟩
  · unfold f_X4_swapTurns
    rw [mj_ck_t (bb_52 (by omega)), nI_clamp (show i < 2 ^ 31 by omega), mw_eq, mj_ck_t (bb_52 (by omega)), nI_clamp (show j < 2 ^ 31 by omega), hT i hi, hT j hj, mw_eq, mw_eq]
  · unfold swF
    by_cases q : k = j
    · rw [if_pos q, q, wI_e]
    · rw [if_neg q, wI_n (by omega)]
      by_cases r : k = i
      · rw [if_pos r, r, wI_e]
      · rw [if_neg r, wI_n (by omega)]; exact hT k hk
theorem dpN_le (T : Nat → Nat) : ∀ n, dpN T n ≤ n := by
  intro n
  induction n with
  | zero => exact Nat.le_refl _
  | succ n ih => unfold dpN; split <;> omega
theorem rsF_rng (T : Nat → Nat) (d : Nat) : ∀ n, d + 1 ≤ rsF T d n ∧ (rsF T d n ≤ d + n ∨ n = 0) := by
  intro n
  induction n with
  | zero => exact ⟨Nat.le_refl _, Or.inr rfl⟩
  | succ n ih =>
    unfold rsF
    split
    · omega
    · rcases ih with ⟨i1, i2⟩
      refine ⟨i1, ?_⟩
      rcases i2 with i2 | i2
      · omega
      · subst i2; left; unfold rsF; omega
theorem rev8 {c : Nat} (hc : c ≤ 5) (N : Nat) : ∀ (n M lo hi : Nat) (T : Nat → Nat) (m : mj_m), hi ≤ lo + 2 * n → n < M → hi < c → (∀ k, k < c → m.1 52 k = nI (T k)) → lo < 1000 → ∃ m', mj_lp M (f_X4_nextTurn_103 N) (nI lo, nI hi, m) = some (1, m') ∧ (∀ k, k < c → m'.1 52 k = nI (rvF n T lo hi k)) ∧ On52 m m' := by
  intro n
  induction n with
  | zero =>
    intro M lo hi T m h1 h2 h3 h4 h5
    obtain ⟨M, rfl⟩ : ∃ k, M = k + 1 := ⟨M - 1, by omega⟩
    refine ⟨m, ?_, h4, On52_r m⟩
    show f_X4_nextTurn_103 N (mj_lp M _) _ = _
    unfold f_X4_nextTurn_103
    dsimp only
    rw [if_pos (nI_le (by omega) (by omega))]
  | succ n ih =>
    intro M lo hi T m h1 h2 h3 h4 h5
    obtain ⟨M, rfl⟩ : ∃ k, M = k + 1 := ⟨M - 1, by omega⟩
    by_cases q : lo < hi
    · obtain ⟨m1, a1, a2, a3⟩ := swap8 hc (show lo < c by omega) h3 h4 N
      obtain ⟨m', b1, b2, b3⟩ := ih M (lo + 1) (hi - 1) (swF T lo hi) m1 (by omega) (by omega) (by omega) a2 (by omega)
      refine ⟨m', ?_, fun k hk => ?_, On52_t a3 b3⟩
      · show f_X4_nextTurn_103 N (mj_lp M (f_X4_nextTurn_103 N)) _ = _
        generalize mj_lp M (f_X4_nextTurn_103 N) = K at b1
        obtain ⟨d, hd⟩ : ∃ d, hi = d + 1 := ⟨hi - 1, by omega⟩
        rw [hd] at a1 b1 ⊢
        rw [show d + 1 - 1 = d by omega] at b1
        unfold f_X4_nextTurn_103
        dsimp only
        rw [if_neg (nI_ge (show lo < d + 1 by omega) (by omega)), a1, bind_some', mw_eq, mw_eq, m1_sub, nI_pred, ← nI_succ]
        exact b1
      · rw [b2 k hk]
        show _ = nI ((if lo < hi then rvF n (swF T lo hi) (lo + 1) (hi - 1) else T) k)
        rw [if_pos q]
    · refine ⟨m, ?_, fun k hk => ?_, On52_r m⟩
      · show f_X4_nextTurn_103 N (mj_lp M _) _ = _
        unfold f_X4_nextTurn_103
        dsimp only
        rw [if_pos (nI_le (by omega) (by omega))]
      · show _ = nI ((if lo < hi then rvF n (swF T lo hi) (lo + 1) (hi - 1) else T) k)
        rw [if_neg q]; exact h4 k hk
theorem next8 {m : mj_m} {c : Nat} {T : Nat → Nat} (hc : c ≤ 5) (h13 : m.1 48 13 = nI c) (hT : ∀ k, k < c → m.1 52 k = nI (T k) ∧ T k < 1000) {N : Nat} (hN : 20 ≤ N) : (nxF c T = none ∧ f_X4_nextTurn N m = some (0, m)) ∨ ∃ T' m', nxF c T = some T' ∧ f_X4_nextTurn N m = some (1, m') ∧ (∀ k, k < c → m'.1 52 k = nI (T' k)) ∧ On52 m m' := by
  have hT1 : ∀ k, k < c → m.1 52 k = nI (T k) := fun k hk => (hT k hk).1
  have dl := dpN_le T (c - 1)
  unfold f_X4_nextTurn
  obtain ⟨s, ⟨e1, e2⟩, e3⟩ := lp_cnt (B := f_X4_nextTurn_4 N m) (E := fun s => if s.1 = (-1 : Int32) then (some (0, m)) else (mj_mw (s.1 + 1) (fun x3 => mj_mw (s.1 + 1) (fun x4 => mj_lp N (f_X4_nextTurn_54 N s.1 m) (x3, x4))))) (c := c - 1) (N := N) (s0 := ((-1 : Int32), 0)) (fun i s => s.2 = nI i ∧ s.1 = nI (dpN T i) - 1) (by omega)
    ⟨rfl, by show (-1 : Int32) = nI 0 - 1; decide⟩
    (fun i s hi ⟨e1, e2⟩ => by
      refine ⟨(nI (dpN T (i + 1)) - 1, nI (i + 1)), ⟨rfl, rfl⟩, fun k => ?_⟩
      obtain ⟨t1, t2⟩ := hT i (by omega)
      obtain ⟨t3, t4⟩ := hT (i + 1) (by omega)
      unfold f_X4_nextTurn_4 f_X4_nextTurn_33
      rw [h13, e1, ← nI_succ, if_neg (nI_ge (show i + 1 < c by omega) (by omega)), mj_ck_t (bb_52 (by omega)), mj_ck_t (bb_52 (by omega)), nI_clamp (show i < 2 ^ 31 by omega), nI_clamp (show i + 1 < 2 ^ 31 by omega), t1, t3, mw_eq, mw_eq, e2]
      show _ = k (nI (if T i < T (i + 1) then i + 1 else dpN T i) - 1, _)
      by_cases y : T i < T (i + 1)
      · rw [if_neg (nI_ge y (by omega)), if_pos y, nI_pred]
      · rw [if_pos (nI_le (by omega) (by omega)), if_neg y])
    (fun s ⟨e1, e2⟩ k => by
      unfold f_X4_nextTurn_4
      rw [h13, e1, ← nI_succ, if_pos (nI_le (by omega) (by omega))])
  rw [e3, e2]
  by_cases q : dpN T (c - 1) = 0
  · left
    refine ⟨if_pos q, ?_⟩
    rw [q, if_pos (by decide)]
  · right
    obtain ⟨d, hd⟩ : ∃ d, dpN T (c - 1) = d + 1 := ⟨dpN T (c - 1) - 1, by omega⟩
    have nx : nxF c T = some (rvF 6 (swF T d (rsF T d (c - (d + 1)))) (d + 1) (c - 1)) := by
      unfold nxF
      rw [if_neg q, hd, show d + 1 - 1 = d by omega]
    obtain ⟨r1, r2⟩ := rsF_rng T d (c - (d + 1))
    obtain ⟨td, td2⟩ := hT d (by omega)
    obtain ⟨s', ⟨f1, f2⟩, f3⟩ := lp_cnt (B := f_X4_nextTurn_54 N (nI d) m) (E := fun s => ((f_X4_swapTurns N (nI d) s.1 m).bind (fun r2 => mj_mw (nI d + 1) (fun x3 => mj_mw ((r2.1 48 13) - 1) (fun x4 => mj_lp N (f_X4_nextTurn_103 N) (x3, x4, r2)))))) (c := c - (d + 1)) (N := N) (s0 := (nI (d + 1), nI (d + 1))) (fun j s => s.2 = nI (d + 1 + j) ∧ s.1 = nI (rsF T d j)) (by omega)
      ⟨rfl, rfl⟩
      (fun j s hj ⟨f1, f2⟩ => by
        refine ⟨(nI (rsF T d (j + 1)), nI (d + 1 + (j + 1))), ⟨rfl, rfl⟩, fun k => ?_⟩
        obtain ⟨t3, t4⟩ := hT (d + 1 + j) (by omega)
        unfold f_X4_nextTurn_54 f_X4_nextTurn_79
        rw [h13, f1, if_neg (nI_ge (show d + 1 + j < c by omega) (by omega)), mj_ck_t (bb_52 (by omega)), mj_ck_t (bb_52 (by omega)), nI_clamp (show d + 1 + j < 2 ^ 31 by omega), nI_clamp (show d < 2 ^ 31 by omega), td, t3, mw_eq, mw_eq, f2, show d + 1 + (j + 1) = d + 1 + j + 1 by omega, nI_succ (d + 1 + j)]
        show _ = k (nI (if T d < T (d + 1 + j) then d + 1 + j else rsF T d j), _)
        by_cases y : T d < T (d + 1 + j)
        · rw [if_neg (nI_ge y (by omega)), if_pos y]
        · rw [if_pos (nI_le (by omega) (by omega)), if_neg y])
      (fun s ⟨f1, _⟩ k => by
        unfold f_X4_nextTurn_54
        rw [h13, f1, if_pos (nI_le (by omega) (by omega))])
    obtain ⟨m1, a1, a2, a3⟩ := swap8 hc (show d < c by omega) (show rsF T d (c - (d + 1)) < c by omega) hT1 N
    obtain ⟨m', b1, b2, b3⟩ := rev8 hc N 6 N (d + 1) (c - 1) _ m1 (by omega) (by omega) (by omega) a2 (by omega)
    refine ⟨_, m', nx, ?_, b2, On52_t a3 b3⟩
    obtain ⟨c', hc'⟩ : ∃ c', c = c' + 1 := ⟨c - 1, by omega⟩
    rw [hd, nI_pred, if_neg (nI_neg d (by omega)), mw_eq, mw_eq, ← nI_succ, f3, f2, a1, bind_some', mw_eq, mw_eq, ← nI_succ, a3.1 48 13 (by omega), h13]
    rw [hc', nI_pred]
    rw [hc', show c' + 1 - 1 = c' by omega] at b1
    exact b1
theorem kI5 {m : mj_m} {K : Nat} (q : K < 5) : (mj_kI m 52 53 0 0 5).1 53 K = m.1 52 K := kI_e q
theorem least8 {m : mj_m} {t : aT} {u : Nat → Int32} (hG : Good t) (g : Rep (cg m 1 8) t u) (h5 : (opL t (t 13 1)).length ≤ 5) {n : Nat} (hn : n ≤ 20) {N : Nat} (hN : 1100 ≤ N) : ∃ (m' : mj_m) (l : Int64) (B : List Nat), f_X4_leastLoss N (nI n) m = some (l, m') ∧ foB (fun T => lsY t (rwT (opL t (t 13 1)) T) (s0Y t u) n) none (pmL (opL t (t 13 1)).length (opL t (t 13 1)).length []) = some (l, B) ∧ Rw m' 53 B ∧ okP (opL t (t 13 1)).length B = true ∧ m'.1 48 13 = nI (opL t (t 13 1)).length ∧ Rw m' 51 (opL t (t 13 1)) ∧ Pd m m' := by
  have gh := GH hG
  obtain ⟨m1, a1, a2, a3, a4⟩ := open84 hG g h5 (N := N) (by omega)
  obtain ⟨m2, b1, b2, b3, b4, b5⟩ := reckon8 hG (Pd_c hG g a4) h5 a2 a3 hN
  have p2 := Pd_t a4 b5
  have facts := pm_facts (opL t (t 13 1)).length (by omega)
  have last5 := pm_last5
  generalize hloss : (fun T => lsY t (rwT (opL t (t 13 1)) T) (s0Y t u) n) = loss
  have lossE : ∀ T, lsY t (rwT (opL t (t 13 1)) T) (s0Y t u) n = loss T := fun T => by rw [← hloss]
  have H : ∀ (l : List (List Nat)) (x : List Nat) (i M : Nat) (lo : Int64) (B : List Nat) (m3 : mj_m), chk (opL t (t 13 1)).length x l = true → (∀ y, y ∈ x :: l → okP (opL t (t 13 1)).length y = true) → i + l.length ≤ 120 → ((opL t (t 13 1)).length = 5 → i + l.length = 120) → l.length < M → m3.1 48 13 = nI (opL t (t 13 1)).length → Rw m3 51 (opL t (t 13 1)) → Mns m3 t (2 ^ (opL t (t 13 1)).length) → Pd m m3 → Rw m3 52 x → Rw m3 53 B → okP (opL t (t 13 1)).length B = true →
      ∃ (m' : mj_m) (l' : Int64) (B' : List Nat), mj_lp M (f_X4_leastLoss_54 N (nI n)) (lo, nI i, m3) = some (l', m') ∧ foB loss (some (lo, B)) l = some (l', B') ∧ Rw m' 53 B' ∧ okP (opL t (t 13 1)).length B' = true ∧ m'.1 48 13 = nI (opL t (t 13 1)).length ∧ Rw m' 51 (opL t (t 13 1)) ∧ Pd m m' := by
    intro l
    induction l with
    | nil =>
      intro x i M lo B m3 ck ok h1 h2 h3 c1 c2 c3 c4 c5 c6 c7
      obtain ⟨M, rfl⟩ : ∃ k, M = k + 1 := ⟨M - 1, by have : ([] : List (List Nat)).length = 0 := rfl; omega⟩
      have l0 : ([] : List (List Nat)).length = 0 := rfl
      rw [l0] at h1 h2
      by_cases q : i = 120
      · refine ⟨m3, lo, B, ?_, rfl, c6, c7, c1, c2, c4⟩
        show f_X4_leastLoss_54 N (nI n) (mj_lp M _) _ = _
        unfold f_X4_leastLoss_54
        dsimp only
        rw [q, if_pos (by decide)]
      · obtain ⟨x1, x2, x3⟩ := okP_use (ok x List.mem_cons_self)
        rcases next8 h5 c1 (T := gd x) (fun k hk => ⟨c5 k (by omega), by have := x2 _ (gd_mem (L := x) (i := k) (by omega)); omega⟩) (N := N) (by omega) with ⟨y1, y2⟩ | ⟨T', m', y1, y2, y3, y4⟩
        · refine ⟨m3, lo, B, ?_, rfl, c6, c7, c1, c2, c4⟩
          show f_X4_leastLoss_54 N (nI n) (mj_lp M _) _ = _
          unfold f_X4_leastLoss_54
          dsimp only
          rw [if_neg (show ¬ 120 ≤ nI i from (nI_ge (show i < 120 by omega) (by omega) : ¬ nI 120 ≤ nI i)), y2, bind_some', if_pos rfl]
        · exfalso
          unfold chk at ck
          rw [y1] at ck
          have := h2 (eq_of_beq ck)
          omega
    | cons y l ih =>
      intro x i M lo B m3 ck ok h1 h2 h3 c1 c2 c3 c4 c5 c6 c7
      rw [List.length_cons] at h1 h2 h3
      obtain ⟨M, rfl⟩ : ∃ k, M = k + 1 := ⟨M - 1, by omega⟩
      obtain ⟨x1, x2, x3⟩ := okP_use (ok x List.mem_cons_self)
      have oky := ok y (List.mem_cons_of_mem _ List.mem_cons_self)
      obtain ⟨z1, z2, z3⟩ := okP_use oky
      unfold chk at ck
      rcases next8 h5 c1 (T := gd x) (fun k hk => ⟨c5 k (by omega), by have := x2 _ (gd_mem (L := x) (i := k) (by omega)); omega⟩) (N := N) (by omega) with ⟨y1, y2⟩ | ⟨T', m4, y1, y2, y3, y4⟩
      · rw [y1] at ck; cases ck
      · rw [y1, Bool.and_eq_true] at ck
        obtain ⟨ck1, ck2⟩ := ck
        have r52 : Rw m4 52 y := fun k hk => by rw [y3 k (by omega), sameN_at ck1 (by omega)]
        have q1 : m4.1 48 13 = nI (opL t (t 13 1)).length := by rw [y4.1 _ _ (by omega)]; exact c1
        have q2 : Rw m4 51 (opL t (t 13 1)) := fun k hk => by rw [y4.1 _ _ (by omega)]; exact c2 k hk
        have q3 : Mns m4 t (2 ^ (opL t (t 13 1)).length) := fun b hb => by rw [y4.2]; exact c3 b hb
        have q4 : Pd m m4 := Pd_t c4 (On52_P y4)
        have q6 : Rw m4 53 B := fun k hk => by rw [y4.1 _ _ (by omega)]; exact c6 k hk
        have tl := turn8 hG (Pd_c hG g q4) h5 q1 q2 q3 z1 z2 z3 r52 hn hN
        rw [lossE] at tl
        by_cases w : lg_cmp (loss y) lo < 0
        · have pk : Pd m (mj_kI m4 52 53 0 0 5) := Pd_k q4 (by omega)
          obtain ⟨m', l', B', r1, r2, r3, r4, r5, r6, r7⟩ := ih y (i + 1) M (loss y) y (mj_kI m4 52 53 0 0 5) ck2 (fun v hv => ok v (List.mem_cons_of_mem _ hv)) (by omega) (fun q => by have := h2 q; omega) (by omega) (by rw [kI_n (by omega)]; exact q1) (fun k hk => by rw [kI_n (by omega)]; exact q2 k hk) (fun b hb => q3 b hb) pk (fun k hk => by rw [kI_n (by omega)]; exact r52 k hk) (fun k hk => by rw [kI5 (by omega)]; exact r52 k hk) oky
          refine ⟨m', l', B', ?_, ?_, r3, r4, r5, r6, r7⟩
          · show f_X4_leastLoss_54 N (nI n) (mj_lp M (f_X4_leastLoss_54 N (nI n))) _ = _
            generalize mj_lp M (f_X4_leastLoss_54 N (nI n)) = K at r1
            unfold f_X4_leastLoss_54 f_X4_leastLoss_99
            dsimp only
            rw [if_neg (show ¬ 120 ≤ nI i from (nI_ge (show i < 120 by omega) (by omega) : ¬ nI 120 ≤ nI i)), y2, bind_some']
            dsimp only
            rw [if_neg (show ¬ (1 : Int32) = 0 by decide), tl, bind_some', if_neg (fun v => (lg0n _ _).mp v w), mj_ck_t (by decide), mw_eq, mw_eq, ← nI_succ]
            exact r1
          · show foB loss (if lg_cmp (loss y) lo < 0 then some (loss y, y) else some (lo, B)) l = _
            rw [if_pos w]; exact r2
        · obtain ⟨m', l', B', r1, r2, r3, r4, r5, r6, r7⟩ := ih y (i + 1) M lo B m4 ck2 (fun v hv => ok v (List.mem_cons_of_mem _ hv)) (by omega) (fun q => by have := h2 q; omega) (by omega) q1 q2 q3 q4 r52 q6 c7
          refine ⟨m', l', B', ?_, ?_, r3, r4, r5, r6, r7⟩
          · show f_X4_leastLoss_54 N (nI n) (mj_lp M (f_X4_leastLoss_54 N (nI n))) _ = _
            generalize mj_lp M (f_X4_leastLoss_54 N (nI n)) = K at r1
            unfold f_X4_leastLoss_54 f_X4_leastLoss_99
            dsimp only
            rw [if_neg (show ¬ 120 ≤ nI i from (nI_ge (show i < 120 by omega) (by omega) : ¬ nI 120 ≤ nI i)), y2, bind_some']
            dsimp only
            rw [if_neg (show ¬ (1 : Int32) = 0 by decide), tl, bind_some', if_pos ((lg0n _ _).mpr w), mw_eq, ← nI_succ]
            exact r1
          · show foB loss (if lg_cmp (loss y) lo < 0 then some (loss y, y) else some (lo, B)) l = _
            rw [if_neg w]; exact r2
  -- the first row
  have rg : ∀ c, c ≤ 5 → (rgL c).length = c ∧ ∀ i, i < c → gd (rgL c) i = i := by
    intro c hc
    rcases (by omega : c = 0 ∨ c = 1 ∨ c = 2 ∨ c = 3 ∨ c = 4 ∨ c = 5) with rfl | rfl | rfl | rfl | rfl | rfl <;> exact ⟨by decide, by decide⟩
  unfold f_X4_leastLoss
  rw [a1, bind_some', b1, bind_some']
  generalize hp : pmL (opL t (t 13 1)).length (opL t (t 13 1)).length [] = pm at facts
  cases pm with
  | nil => cases facts
  | cons x l =>
    rw [Bool.and_eq_true, Bool.and_eq_true, Bool.and_eq_true] at facts
    obtain ⟨k1, k2, k3, k4⟩ := facts
    have kx : x = rgL (opL t (t 13 1)).length := eq_of_beq k1
    have kl := of_decide_eq_true k4
    have kok : ∀ y, y ∈ x :: l → okP (opL t (t 13 1)).length y = true := fun y hy => List.all_eq_true.mp k3 y hy
    obtain ⟨x1, x2, x3⟩ := okP_use (kok x List.mem_cons_self)
    obtain ⟨g1, g2⟩ := rg _ h5
    obtain ⟨z, ⟨-, e2, e3⟩, e4⟩ := lp_cnt (B := f_X4_leastLoss_10 N (nI n)) (E := fun z => ((f_X4_lossOfTurn N (nI n) z.2).bind (fun r2 => mj_ck (mj_p 0 52 53 0 0 5) ( mj_mw (mj_kI z.2 52 53 ((0 : Int32).toNatClampNeg) ((0 : Int32).toNatClampNeg) ((5 : Int32).toNatClampNeg)) (fun m4 => mj_lp N (f_X4_leastLoss_54 N (nI n)) (r2, 1, m4)))))) (c := (opL t (t 13 1)).length) (N := N) (s0 := (0, m2)) (fun i z => z.1 = nI i ∧ (∀ k, k < i → z.2.1 52 k = nI k) ∧ On52 m2 z.2) (by omega)
      ⟨rfl, fun k hk => absurd hk (Nat.not_lt_zero k), On52_r m2⟩
      (fun i z hi ⟨e1, e2, e3⟩ => by
        refine ⟨(nI (i + 1), mj_wI z.2 52 i (nI i)), ⟨rfl, fun k hk => ?_, On52_t e3 ⟨fun a k q => wI_n (by omega), rfl⟩⟩, fun k => ?_⟩
        · by_cases y : k = i
          · rw [y, wI_e]
          · rw [wI_n (by omega)]; exact e2 k (by omega)
        · unfold f_X4_leastLoss_10
          rw [e3.1 48 13 (by omega), b2, e1, if_neg (nI_ge hi (by omega)), mj_ck_t (bb_52 (by omega)), nI_clamp (by omega), mw_eq, mw_eq, nI_succ])
      (fun z ⟨e1, e2, e3⟩ k => by
        unfold f_X4_leastLoss_10
        rw [e3.1 48 13 (by omega), b2, e1, if_pos (nI_le (by omega) (by omega))])
    have r52 : Rw z.2 52 x := fun k hk => by
      rw [x1] at hk
      rw [e2 k hk, kx, g2 k hk]
    have q1 : z.2.1 48 13 = nI (opL t (t 13 1)).length := by rw [e3.1 _ _ (by omega)]; exact b2
    have q2 : Rw z.2 51 (opL t (t 13 1)) := fun k hk => by rw [e3.1 _ _ (by omega)]; exact b3 k hk
    have q3 : Mns z.2 t (2 ^ (opL t (t 13 1)).length) := fun b hb => by rw [e3.2]; exact b4 b hb
    have q4 : Pd m z.2 := Pd_t p2 (On52_P e3)
    have tl := turn8 hG (Pd_c hG g q4) h5 q1 q2 q3 x1 x2 x3 r52 hn hN
    rw [lossE] at tl
    obtain ⟨m', l', B', r1, r2, r3, r4, r5, r6, r7⟩ := H l x 1 N (loss x) x (mj_kI z.2 52 53 0 0 5) k2 kok (by omega) (fun q => by
      rw [q] at hp
      rw [hp] at last5
      have : l.length = 119 := last5
      omega) (by omega) (by rw [kI_n (by omega)]; exact q1) (fun k hk => by rw [kI_n (by omega)]; exact q2 k hk) (fun b hb => q3 b hb) (Pd_k q4 (by omega)) (fun k hk => by rw [kI_n (by omega)]; exact r52 k hk) (fun k hk => by rw [kI5 (by omega)]; exact r52 k hk) (kok x List.mem_cons_self)
    refine ⟨m', l', B', ?_, r2, r3, r4, r5, r6, r7⟩
    rw [e4, tl, bind_some', mj_ck_t (by decide), mw_eq]
    exact r1
