/-! BEST: the reference tries all rows -/
def OKP (c : Nat) (B : List Nat) : Prop := B.length = c ∧ (∀ x, x ∈ B → x < c) ∧ B.Nodup
def AccR (m : mj_m) (O : List Nat) (a : Option (Int64 × List Nat)) : Prop := (a = none ∧ m.1 95 52 = 0) ∨ ∃ l B, a = some (l, B) ∧ m.1 95 52 = 1 ∧ m.2 95 51 = l ∧ OKP O.length B ∧ ∀ j, j < O.length → m.1 125 j = nI (gd O (gd B j))
def Ft (m m' : mj_m) : Prop := (∀ a k, a ≠ 120 → a ≠ 124 → a ≠ 125 → a ≠ 126 → ¬ (a = 95 ∧ (46 ≤ k ∧ k ≤ 52)) → m'.1 a k = m.1 a k) ∧ (∀ a k, a ≠ 121 → a ≠ 122 → ¬ (a = 95 ∧ k = 51) → m'.2 a k = m.2 a k)
theorem Ft_r (m : mj_m) : Ft m m := ⟨fun _ _ _ _ _ _ _ => rfl, fun _ _ _ _ _ => rfl⟩
theorem Ft_t {m m' m'' : mj_m} (h : Ft m m') (h' : Ft m' m'') : Ft m m'' := ⟨fun a k q1 q2 q3 q4 q5 => (h'.1 a k q1 q2 q3 q4 q5).trans (h.1 a k q1 q2 q3 q4 q5), fun a k q r s => (h'.2 a k q r s).trans (h.2 a k q r s)⟩
theorem Ft_w {m m' : mj_m} {a k : Nat} {v : Int32} (h : Ft m m') (q : a = 124 ∨ a = 125 ∨ a = 126 ∨ (a = 95 ∧ (46 ≤ k ∧ k ≤ 52))) : Ft m (mj_wI m' a k v) := Ft_t h ⟨fun b j _ _ _ _ _ => wI_n (by omega), fun _ _ _ _ _ => rfl⟩
theorem Ft_L {m m' : mj_m} {v : Int64} (h : Ft m m') : Ft m (mj_wL m' 95 51 v) := Ft_t h ⟨fun _ _ _ _ _ _ _ => rfl, fun a k _ _ q => wL_n (by omega)⟩
theorem Fp_F {m m' : mj_m} (h : Fp m m') : Ft m m' := ⟨fun a k q1 _ _ _ q5 => h.1 a k q1 (by omega), fun a k q r _ => h.2 a k q r⟩
theorem Ft_E {m m' : mj_m} (h : Ft m m') : Eqs okA m m' := ⟨fun a k q => by unfold okA okN okC okM at q; exact h.1 a k (by omega) (by omega) (by omega) (by omega) (by omega), fun a k q => by unfold okL at q; exact h.2 a k (by omega) (by omega) (by omega)⟩
theorem Ft_g {m m' : mj_m} {t : aT} {u : Nat → Int32} (hG : Good t) (g : Rep (mg m) t u) (h : Ft m m') : Rep (mg m') t u := RT_m hG g (fun a k q => (Ft_E h).1 a k (Or.inr (Or.inr q)))
theorem rwT_ok {t : aT} {P : List Nat} (hP : ∀ x, x ∈ P → x < (opL t (t 13 1)).length) : ∀ x, x ∈ rwT (opL t (t 13 1)) P → x < t 13 1 := fun x hx => by
  unfold rwT at hx
  rw [List.mem_map] at hx
  obtain ⟨j, j1, j2⟩ := hx
  rw [← j2]
  exact ((opL_mem t _ _).mp (gd_mem (hP j j1))).1
theorem leaf9 {m : mj_m} {t : aT} {u : Nat → Int32} (hG : Good t) (g : Rep (mg m) t u) {c : Nat} (hc : c = (opL t (t 13 1)).length) (h5 : c ≤ 5) {P : List Nat} (hP : OKP c P) (htr : ∀ j, j < c → m.1 126 j = nI (gd (opL t (t 13 1)) (gd P j))) {a : Option (Int64 × List Nat)} (ha : AccR m (opL t (t 13 1)) a) {n : Nat} (hn : n ≤ 20) {N : Nat} (hN : 1100 ≤ N) (rc : Int32 → Int32 → Int32 → Int32 → mj_m → Option (mj_m)) (set : Int32) :
    ∃ m', f_X9_tries_b N rc (nI n) (nI c) set (nI c) m = some m' ∧ AccR m' (opL t (t 13 1)) (bsF (fun T => lsY t (rwT (opL t (t 13 1)) T) (s0Y t u) n) a P) ∧ Ft m m' ∧ (∀ j, m'.1 126 j = m.1 126 j) := by
  have gh := GH hG
  obtain ⟨pl, px, pn⟩ := hP
  generalize hL : rwT (opL t (t 13 1)) P = L
  have Ll : L.length = c := by rw [← hL, rwT_len, pl]
  have Lx : ∀ x, x ∈ L → x < t 13 1 := by rw [← hL]; exact rwT_ok (by rw [← hc]; exact px)
  have Lg : ∀ j, j < c → gd L j = gd (opL t (t 13 1)) (gd P j) := fun j hj => by rw [← hL]; exact rwT_gd (by omega)
  unfold f_X9_tries_b
  rw [if_pos rfl]
  obtain ⟨z, ⟨-, e2, e3, e4⟩, e5⟩ := lp_cnt (B := f_X9_tries_9 N rc (nI n) (nI c)) (E := fun z => (mj_mw (mj_wI z.2 95 46 (nI c)) (fun m2 => (f_X9_planned N (nI n) m2).bind (fun r3 => if (r3.2.1 95 52) = 0 then f_X9_tries_65 N rc (nI c) r3.1 r3.2 else (if (lg_cmp r3.1 (r3.2.2 95 51)) < 0 then f_X9_tries_65 N rc (nI c) r3.1 r3.2 else (some r3.2)))))) (c := c) (N := N) (s0 := (0, m)) (fun i z => z.1 = nI i ∧ (∀ j, j < i → z.2.1 124 j = nI (gd L j)) ∧ (∀ b k, b ≠ 124 → z.2.1 b k = m.1 b k) ∧ z.2.2 = m.2) (by omega)
    ⟨rfl, fun j hj => absurd hj (Nat.not_lt_zero j), fun _ _ _ => rfl, rfl⟩
    (fun i z hi ⟨e1, e2, e3, e4⟩ => by
      refine ⟨(nI (i + 1), mj_wI z.2 124 i (nI (gd L i))), ⟨rfl, fun j hj => ?_, fun b k q => by rw [wI_n (by omega)]; exact e3 b k q, e4⟩, fun k => ?_⟩
      · by_cases y : j = i
        · rw [y, wI_e]
        · rw [wI_n (by omega)]; exact e2 j (by omega)
      · unfold f_X9_tries_9
        rw [e1, if_neg (nI_ge hi (by omega)), mj_ck_t (bb_126 (by omega)), mj_ck_t (bb_124 (by omega)), nI_clamp (by omega), e3 126 i (by omega), htr i hi, ← Lg i hi, mw_eq, mw_eq, nI_succ])
    (fun z ⟨e1, _⟩ k => by
      unfold f_X9_tries_9
      rw [e1, if_pos (nI_le (by omega) (by omega))])
  have fz : Ft m (mj_wI z.2 95 46 (nI c)) := Ft_w ⟨fun b k _ q _ _ _ => e3 b k q, fun b k _ _ _ => by rw [e4]⟩ (by omega)
  obtain ⟨m3, p1, p2, p3⟩ := planned9 hG Lx (by omega) (Ft_g hG g fz) (L := L) (by rw [wI_e, Ll]) (fun j hj => by rw [wI_n (by omega)]; exact e2 j (by omega)) hn hN
  have f3 := Ft_t fz (Fp_F p3)
  have v52 : m3.1 95 52 = m.1 95 52 := by rw [p3.1 95 52 (by omega) (by omega), wI_n (by omega), e3 95 52 (by omega)]
  have v51 : m3.2 95 51 = m.2 95 51 := by
    rw [p3.2 95 51 (by omega) (by omega)]
    show z.2.2 95 51 = _
    rw [e4]
  have v125 : ∀ j, m3.1 125 j = m.1 125 j := fun j => by rw [p3.1 125 j (by omega) (by omega), wI_n (by omega), e3 125 j (by omega)]
  have v126 : ∀ j, m3.1 126 j = m.1 126 j := fun j => by rw [p3.1 126 j (by omega) (by omega), wI_n (by omega), e3 126 j (by omega)]
  have taken : ∃ m', f_X9_tries_65 N rc (nI c) (lsY t L (s0Y t u) n) m3 = some m' ∧ AccR m' (opL t (t 13 1)) (some (lsY t L (s0Y t u) n, P)) ∧ Ft m m' ∧ (∀ j, m'.1 126 j = m.1 126 j) := by
    unfold f_X9_tries_65
    rw [mw_eq, mw_eq]
    obtain ⟨y, ⟨-, y2, y3, y4⟩, y5⟩ := lp_cnt (B := f_X9_tries_79 N rc (nI c)) (E := fun y => some y.2) (c := c) (N := N) (s0 := (0, mj_wL (mj_wI m3 95 52 1) 95 51 (lsY t L (s0Y t u) n))) (fun i y => y.1 = nI i ∧ (∀ j, j < i → y.2.1 125 j = nI (gd L j)) ∧ (∀ b k, b ≠ 125 → y.2.1 b k = (mj_wI m3 95 52 1).1 b k) ∧ y.2.2 = (mj_wL (mj_wI m3 95 52 1) 95 51 (lsY t L (s0Y t u) n)).2) (by omega)
      ⟨rfl, fun j hj => absurd hj (Nat.not_lt_zero j), fun _ _ _ => rfl, rfl⟩
      (fun i y hi ⟨y1, y2, y3, y4⟩ => by
        refine ⟨(nI (i + 1), mj_wI y.2 125 i (nI (gd L i))), ⟨rfl, fun j hj => ?_, fun b k q => by rw [wI_n (by omega)]; exact y3 b k q, y4⟩, fun k => ?_⟩
        · by_cases w : j = i
          · rw [w, wI_e]
          · rw [wI_n (by omega)]; exact y2 j (by omega)
        · unfold f_X9_tries_79
          rw [y1, if_neg (nI_ge hi (by omega)), mj_ck_t (bb_126 (by omega)), mj_ck_t (bb_125 (by omega)), nI_clamp (by omega), y3 126 i (by omega), wI_n (by omega), v126, htr i hi, ← Lg i hi, mw_eq, mw_eq, nI_succ])
      (fun y ⟨y1, _⟩ k => by
        unfold f_X9_tries_79
        rw [y1, if_pos (nI_le (by omega) (by omega))])
    refine ⟨y.2, y5, Or.inr ⟨_, P, rfl, ?_, ?_, ⟨by omega, by rw [← hc]; exact px, pn⟩, fun j hj => ?_⟩, Ft_t f3 ⟨fun b k q1 q2 q3 q4 q5' => ?_, fun b k q1 q2 q3 => ?_⟩, fun j => ?_⟩
    · rw [y3 95 52 (by omega), wI_e]
    · rw [y4, wL_e]
    · rw [y2 j (by omega), Lg j (by omega)]
    · rw [y3 b k q3, wI_n (by omega)]
    · rw [y4, wL_n (by omega)]; rfl
    · rw [y3 126 j (by omega), wI_n (by omega)]; exact v126 j
  rw [e5, mw_eq, p1, bind_some']
  dsimp only
  rw [v52, v51]
  rcases ha with ⟨a1, a2⟩ | ⟨l, B, a1, a2, a3, a4, a6⟩
  · rw [a1, a2, if_pos rfl]
    show ∃ m', _ ∧ AccR m' (opL t (t 13 1)) (some (lsY t (rwT (opL t (t 13 1)) P) (s0Y t u) n, P)) ∧ _ ∧ _
    rw [hL]
    exact taken
  · rw [a1, a2, if_neg (by decide), a3]
    show ∃ m', _ ∧ AccR m' (opL t (t 13 1)) (if lg_cmp (lsY t (rwT (opL t (t 13 1)) P) (s0Y t u) n) l < 0 then some (lsY t (rwT (opL t (t 13 1)) P) (s0Y t u) n, P) else some (l, B)) ∧ _ ∧ _
    rw [hL]
    by_cases w : lg_cmp (lsY t L (s0Y t u) n) l < 0
    · rw [if_pos w, if_pos w]; exact taken
    · rw [if_neg w, if_neg w]
      exact ⟨m3, rfl, Or.inr ⟨l, B, rfl, by rw [v52]; exact a2, by rw [v51]; exact a3, a4, fun j hj => by rw [v125]; exact a6 j hj⟩, f3, v126⟩
theorem tries9 {t : aT} {u : Nat → Int32} (hG : Good t) {c : Nat} (hc : c = (opL t (t 13 1)).length) (h5 : c ≤ 5) {n : Nat} (hn : n ≤ 20) {N : Nat} (hN : 1100 ≤ N) : ∀ (r d set : Nat) (P : List Nat) (m : mj_m) (a : Option (Int64 × List Nat)), P.length + r = c → r < d → (∀ x, x ∈ P → x < c) → P.Nodup → (∀ j, j < P.length → m.1 126 j = nI (gd (opL t (t 13 1)) (gd P j))) → (set < 1024 ∧ ∀ h, h < 10 → set.testBit h = decide (h ∈ rwT (opL t (t 13 1)) P)) → Rep (mg m) t u → AccR m (opL t (t 13 1)) a →
    ∃ m', f_X9_tries N d (nI n) (nI c) (nI set) (nI P.length) m = some m' ∧ AccR m' (opL t (t 13 1)) (foB (fun T => lsY t (rwT (opL t (t 13 1)) T) (s0Y t u) n) a (pmL c r P)) ∧ Ft m m' ∧ (∀ j, j < P.length → m'.1 126 j = m.1 126 j) := by
  have gh := GH hG
  have nd := opL_nd t (t 13 1)
  generalize hl : (fun T => lsY t (rwT (opL t (t 13 1)) T) (s0Y t u) n) = loss
  intro r
  induction r with
  | zero =>
    intro d set P m a h1 h2 px pn tr bt g ac
    obtain ⟨d, rfl⟩ : ∃ k, d = k + 1 := ⟨d - 1, by omega⟩
    have pc : P.length = c := by omega
    obtain ⟨m', x1, x2, x3, x4⟩ := leaf9 hG g hc h5 ⟨pc, px, pn⟩ (fun j hj => tr j (by omega)) ac hn hN (f_X9_tries N d) (nI set)
    rw [hl] at x2
    refine ⟨m', ?_, x2, x3, fun j _ => x4 j⟩
    show f_X9_tries_b N (f_X9_tries N d) (nI n) (nI c) (nI set) (nI P.length) m = _
    rw [pc]; exact x1
  | succ r ih =>
    intro d set P m a h1 h2 px pn tr bt g ac
    obtain ⟨d, rfl⟩ : ∃ k, d = k + 1 := ⟨d - 1, by omega⟩
    show ∃ m', f_X9_tries_b N (f_X9_tries N d) (nI n) (nI c) (nI set) (nI P.length) m = some m' ∧ AccR m' (opL t (t 13 1)) (foB loss a (catN (fun i => if hasN i P = true then [] else pmL c r (P ++ [i])) c)) ∧ Ft m m' ∧ (∀ j, j < P.length → m'.1 126 j = m.1 126 j)
    unfold f_X9_tries_b
    rw [if_neg (fun z => by have := (nI_eq (by omega) (by omega)).mp z; omega)]
    obtain ⟨z, ⟨-, e2, e3, e4⟩, e5⟩ := lp_cnt (B := f_X9_tries_109 N (f_X9_tries N d) (nI n) (nI c) (nI set) (nI P.length)) (E := fun z => some z.2) (c := t 13 1) (N := N) (s0 := (0, m)) (fun h z => z.1 = nI h ∧ AccR z.2 (opL t (t 13 1)) (foB loss a (catN (fun i => if hasN i P = true then [] else pmL c r (P ++ [i])) (opL t h).length)) ∧ Ft m z.2 ∧ (∀ j, j < P.length → z.2.1 126 j = m.1 126 j)) (by omega)
      ⟨rfl, ac, Ft_r m, fun _ _ => rfl⟩
      (fun h z hh ⟨e1, e2, e3, e4⟩ => by
        have gs := Ft_g hG g e3
        have sl := st_le hG hh
        by_cases q : t 7 h = 0
        · obtain ⟨o1, o2⟩ := opL_at hh q
          have eo : (opL t (h + 1)).length = (opL t h).length + 1 := by rw [opL_s, if_pos q, List.length_append, List.length_singleton]
          have bh := bt.2 h (by omega)
          have inP : h ∈ rwT (opL t (t 13 1)) P ↔ (opL t h).length ∈ P := by
            unfold rwT
            rw [List.mem_map]
            constructor
            · rintro ⟨j, j1, j2⟩
              have := gd_inj nd (show j < _ by rw [← hc]; exact px j j1) o1 (j2.trans o2.symm)
              rw [← this]; exact j1
            · intro w; exact ⟨_, w, o2⟩
          by_cases w : (opL t h).length ∈ P
          · refine ⟨(nI (h + 1), z.2), ⟨rfl, ?_, e3, e4⟩, fun k => ?_⟩
            · rw [eo]
              show AccR z.2 _ (foB loss a (catN _ (opL t h).length ++ (if hasN (opL t h).length P = true then [] else pmL c r (P ++ [(opL t h).length]))))
              rw [if_pos ((hasN_iff _ _).mpr w), List.append_nil]; exact e2
            · unfold f_X9_tries_109 f_X9_tries_166
              rw [y_houses gs, e1, if_neg (nI_ge hh (by omega)), mj_ck_t (bb_108 (by omega)), nI_clamp (by omega), y_steps gs hh, q, if_neg (by decide), if_pos ((n_bit1 set (by omega)).mpr (by rw [bh]; exact decide_eq_true (inP.mpr w))), mw_eq, nI_succ]
          · have f6 : Ft m (mj_wI z.2 126 P.length (nI h)) := Ft_w e3 (by omega)
            have ac6 : AccR (mj_wI z.2 126 P.length (nI h)) (opL t (t 13 1)) (foB loss a (catN (fun i => if hasN i P = true then [] else pmL c r (P ++ [i])) (opL t h).length)) := by
              rcases e2 with ⟨a1, a2⟩ | ⟨l, B, a1, a2, a3, a4, a6⟩
              · exact Or.inl ⟨a1, by rw [wI_n (by omega)]; exact a2⟩
              · exact Or.inr ⟨l, B, a1, by rw [wI_n (by omega)]; exact a2, a3, a4, fun j hj => by rw [wI_n (by omega)]; exact a6 j hj⟩
            obtain ⟨m', x1, x2, x3, x4⟩ := ih d (set ||| 2 ^ h) (P ++ [(opL t h).length]) (mj_wI z.2 126 P.length (nI h)) _ (by rw [List.length_append, List.length_singleton]; omega) (by omega) (fun x hx => by
                rcases List.mem_append.mp hx with y | y
                · exact px x y
                · rw [List.mem_singleton] at y; rw [y]; omega) (nd_snoc pn w) (fun j hj => by
                rw [List.length_append, List.length_singleton] at hj
                rw [gd_snoc _ _ _ (by omega)]
                by_cases y : j = P.length
                · rw [if_pos y, y, wI_e, o2]
                · rw [if_neg y, wI_n (by omega), e4 j (by omega)]; exact tr j (by omega)) ⟨Nat.or_lt_two_pow (n := 10) bt.1 (pw_lt (show h < 10 by omega)), fun x hx => by
                rw [Nat.testBit_or, bt.2 x hx, Nat.testBit_two_pow, ← Bool.decide_or]
                refine decide_eq_decide.mpr ?_
                unfold rwT
                rw [List.map_append, List.mem_append, List.map_cons, List.map_nil, List.mem_singleton, o2]
                exact ⟨fun y => y.elim Or.inl (fun v => Or.inr v.symm), fun y => y.elim Or.inl (fun v => Or.inr v.symm)⟩⟩ (Ft_g hG g f6) ac6
            rw [List.length_append, List.length_singleton] at x1
            refine ⟨(nI (h + 1), m'), ⟨rfl, ?_, Ft_t f6 x3, fun j hj => ?_⟩, fun k => ?_⟩
            · rw [eo]
              show AccR m' _ (foB loss a (catN _ (opL t h).length ++ (if hasN (opL t h).length P = true then [] else pmL c r (P ++ [(opL t h).length]))))
              rw [if_neg (fun y => w ((hasN_iff _ _).mp y)), foB_app]; exact x2
            · rw [x4 j (by rw [List.length_append, List.length_singleton]; omega), wI_n (by omega)]; exact e4 j hj
            · unfold f_X9_tries_109 f_X9_tries_166
              rw [y_houses gs, e1, if_neg (nI_ge hh (by omega)), mj_ck_t (bb_108 (by omega)), nI_clamp (show h < 2 ^ 31 by omega), y_steps gs hh, q, if_neg (by decide), if_neg (fun y => by
                have := (n_bit1 set (by omega)).mp y
                rw [bh, decide_eq_false (fun v => w (inP.mp v))] at this; cases this), mj_ck_t (bb_126 (by omega)), nI_clamp (show P.length < 2 ^ 31 by omega), mw_eq, n_shl h (by omega), n_or, ← nI_succ, x1, bind_some', mw_eq, nI_succ]
        · have eo : opL t (h + 1) = opL t h := by rw [opL_s, if_neg q]
          refine ⟨(nI (h + 1), z.2), ⟨rfl, by rw [eo]; exact e2, e3, e4⟩, fun k => ?_⟩
          unfold f_X9_tries_109 f_X9_tries_166
          rw [y_houses gs, e1, if_neg (nI_ge hh (by omega)), mj_ck_t (bb_108 (by omega)), nI_clamp (by omega), y_steps gs hh, if_pos (show 0 < nI (t 7 h) from (nI_lt (show 0 < t 7 h by omega) (by omega) : nI 0 < nI (t 7 h))), mw_eq, nI_succ])
      (fun z ⟨e1, _, e3, _⟩ k => by
        have gs := Ft_g hG g e3
        unfold f_X9_tries_109
        rw [y_houses gs, e1, if_pos (nI_le (by omega) (by omega))])
    exact ⟨z.2, e5, by rw [← hc] at e2; exact e2, e3, e4⟩
theorem bests9 {m : mj_m} {t : aT} {u : Nat → Int32} (hG : Good t) (g : Rep (mg m) t u) (h5 : (opL t (t 13 1)).length ≤ 5) {n : Nat} (hn : n ≤ 20) {N : Nat} (hN : 1100 ≤ N) {l : Int64} {B : List Nat} (hb : foB (fun T => lsY t (rwT (opL t (t 13 1)) T) (s0Y t u) n) none (pmL (opL t (t 13 1)).length (opL t (t 13 1)).length []) = some (l, B)) : ∃ m', f_X9_bests N (nI n) m = some m' ∧ m'.2 95 51 = l ∧ (∀ j, j < (opL t (t 13 1)).length → m'.1 125 j = nI (gd (opL t (t 13 1)) (gd B j))) ∧ Ft m m' := by
  have f0 : Ft m (mj_wI m 95 52 0) := Ft_w (Ft_r m) (by omega)
  have g0 := Ft_g hG g f0
  obtain ⟨m', x1, x2, x3, -⟩ := tries9 hG (c := (opL t (t 13 1)).length) rfl h5 hn hN (opL t (t 13 1)).length 8 0 [] (mj_wI m 95 52 0) none (by show 0 + _ = _; omega) (by omega) (fun x hx => by cases hx) List.nodup_nil (fun j hj => absurd hj (Nat.not_lt_zero j)) ⟨by decide, fun h _ => by rw [Nat.zero_testBit]; rfl⟩ g0 (Or.inl ⟨rfl, wI_e⟩)
  rw [hb] at x2
  refine ⟨m', ?_, ?_, ?_, Ft_t f0 x3⟩
  · unfold f_X9_bests
    rw [mw_eq, fresh9 hG g0 (by omega), bind_some']
    show (f_X9_tries N 8 (nI n) (nI (opL t (t 13 1)).length) (nI 0) (nI 0) (mj_wI m 95 52 0)).bind _ = _
    rw [show f_X9_tries N 8 (nI n) (nI (opL t (t 13 1)).length) (nI 0) (nI 0) (mj_wI m 95 52 0) = some m' from x1]
    rfl
  · rcases x2 with ⟨a1, -⟩ | ⟨l', B', a1, -, a3, -, -⟩
    · cases a1
    · rw [a3]; exact (Prod.mk.inj (Option.some.inj a1)).1.symm
  · rcases x2 with ⟨a1, -⟩ | ⟨l', B', a1, -, -, -, a6⟩
    · cases a1
    · rw [(Prod.mk.inj (Option.some.inj a1)).2]; exact a6
