/-! BEST: the class's open houses, their means, the loss of a turn -/
theorem fresh8 {m : mj_m} {t : aT} {u : Nat → Int32} (hG : Good t) (g : Rep (cg m 1 8) t u) {N : Nat} (hN : 20 ≤ N) : f_X4_countUnstrengthened N m = some (nI (opL t (t 13 1)).length) := by
  have gh := GH hG
  unfold f_X4_countUnstrengthened
  refine lp_for (fun i => (nI (opL t i).length, nI i)) (c := t 13 1) (by omega) (fun i hi k => ?_) (fun k => ?_)
  · have sl := st_le hG hi
    show _ = k (nI (if t 7 i = 0 then opL t i ++ [i] else opL t i).length, nI (i + 1))
    unfold f_X4_countUnstrengthened_4 f_X4_countUnstrengthened_33
    dsimp only
    rw [x_houses g, if_neg (nI_ge hi (by omega)), mj_ck_t (bb_5 (by omega)), nI_clamp (by omega), x_steps g hi, mw_eq, mw_eq, mw_eq, mw_eq]
    by_cases y : t 7 i = 0
    · rw [if_pos (by rw [y]; rfl), if_pos y, List.length_append, List.length_singleton, nI_succ, nI_succ]
    · rw [if_neg (fun z => y ((nI_z (by omega)).mp z)), if_neg y, Int32.add_zero, nI_succ]
  · unfold f_X4_countUnstrengthened_4
    dsimp only
    rw [x_houses g, if_pos (nI_le (by omega) (by omega))]
theorem fresh9 {m : mj_m} {t : aT} {u : Nat → Int32} (hG : Good t) (g : Rep (mg m) t u) {N : Nat} (hN : 20 ≤ N) : f_X9_fresh N m = some (nI (opL t (t 13 1)).length) := by
  have gh := GH hG
  unfold f_X9_fresh
  refine lp_for (fun i => (nI (opL t i).length, nI i)) (c := t 13 1) (by omega) (fun i hi k => ?_) (fun k => ?_)
  · have sl := st_le hG hi
    show _ = k (nI (if t 7 i = 0 then opL t i ++ [i] else opL t i).length, nI (i + 1))
    unfold f_X9_fresh_4 f_X9_fresh_27
    dsimp only
    rw [y_houses g, if_neg (nI_ge hi (by omega)), mj_ck_t (bb_108 (by omega)), nI_clamp (by omega), y_steps g hi, mw_eq, mw_eq, mw_eq, mw_eq]
    by_cases y : t 7 i = 0
    · rw [if_pos (by rw [y]; rfl), if_pos y, List.length_append, List.length_singleton, nI_succ, nI_succ]
    · rw [if_neg (fun z => y ((nI_z (by omega)).mp z)), if_neg y, Int32.add_zero, nI_succ]
  · unfold f_X9_fresh_4
    dsimp only
    rw [y_houses g, if_pos (nI_le (by omega) (by omega))]
theorem open84 {m : mj_m} {t : aT} {u : Nat → Int32} (hG : Good t) (g : Rep (cg m 1 8) t u) (h5 : (opL t (t 13 1)).length ≤ 5) {N : Nat} (hN : 20 ≤ N) : ∃ m', f_X4_findOpen N m = some m' ∧ m'.1 48 13 = nI (opL t (t 13 1)).length ∧ Rw m' 51 (opL t (t 13 1)) ∧ Pd m m' := by
  have gh := GH hG
  have H : ∀ (d i M : Nat) (m2 : mj_m), i + d = t 13 1 → d < M → m2.1 48 13 = nI (opL t i).length → Rw m2 51 (opL t i) → Pd m m2 → ∃ m', mj_lp M (f_X4_findOpen_7 N) (nI i, m2) = some m' ∧ m'.1 48 13 = nI (opL t (t 13 1)).length ∧ Rw m' 51 (opL t (t 13 1)) ∧ Pd m m' := by
    intro d
    induction d with
    | zero =>
      intro i M m2 h1 h2 e1 e2 e3
      obtain ⟨M, rfl⟩ : ∃ k, M = k + 1 := ⟨M - 1, by omega⟩
      have hi : i = t 13 1 := by omega
      subst hi
      refine ⟨m2, ?_, e1, e2, e3⟩
      show f_X4_findOpen_7 N (mj_lp M _) (nI (t 13 1), m2) = _
      unfold f_X4_findOpen_7
      dsimp only
      rw [x_houses (Pd_c hG g e3), if_pos (nI_le (by omega) (by omega))]
    | succ d ih =>
      intro i M m2 h1 h2 e1 e2 e3
      obtain ⟨M, rfl⟩ : ∃ k, M = k + 1 := ⟨M - 1, by omega⟩
      have hi : i < t 13 1 := by omega
      have gs := Pd_c hG g e3
      have sl := st_le hG hi
      obtain ⟨r, hr⟩ := opL_pre t (d + 1) i
      rw [h1] at hr
      have ln : (opL t (t 13 1)).length = (opL t i).length + r.length := by rw [hr, List.length_append]
      by_cases q5 : (opL t i).length = 5
      · have r0 : r = [] := List.length_eq_zero_iff.mp (by omega)
        have er : opL t (t 13 1) = opL t i := by rw [hr, r0, List.append_nil]
        refine ⟨m2, ?_, by rw [er]; exact e1, by rw [er]; exact e2, e3⟩
        show f_X4_findOpen_7 N (mj_lp M _) (nI i, m2) = _
        unfold f_X4_findOpen_7
        dsimp only
        rw [x_houses gs, if_neg (nI_ge hi (by omega)), e1, q5, if_pos (by decide)]
      · by_cases y : t 7 i = 0
        · have eo : opL t (i + 1) = opL t i ++ [i] := by rw [opL_s, if_pos y]
          obtain ⟨m', z1, z2, z3, z4⟩ := ih (i + 1) M (mj_wI (mj_wI m2 51 (opL t i).length (nI i)) 48 13 (nI ((opL t i).length + 1))) (by omega) (by omega) (by rw [eo, List.length_append, List.length_singleton, wI_e]) (by
            rw [eo]
            intro j hj
            rw [wI_n (by omega)]
            exact Rw_snoc i e2 j hj) (Pd_w (Pd_w e3 (by omega)) (by omega))
          refine ⟨m', ?_, z2, z3, z4⟩
          show f_X4_findOpen_7 N (mj_lp M (f_X4_findOpen_7 N)) (nI i, m2) = _
          generalize mj_lp M (f_X4_findOpen_7 N) = K at z1
          unfold f_X4_findOpen_7 f_X4_findOpen_58
          dsimp only
          rw [x_houses gs, if_neg (nI_ge hi (by omega)), e1, if_neg (show ¬ 5 ≤ nI (opL t i).length from (nI_ge (show (opL t i).length < 5 by omega) (by omega) : ¬ nI 5 ≤ nI (opL t i).length)), mj_ck_t (bb_5 (by omega)), nI_clamp (show i < 2 ^ 31 by omega), x_steps gs hi, y, if_pos (by rfl), mj_ck_t (bb_51 (by omega)), nI_clamp (show (opL t i).length < 2 ^ 31 by omega), mw_eq, wI_n (by omega), e1, mw_eq, mw_eq, ← nI_succ, ← nI_succ]
          exact z1
        · have eo : opL t (i + 1) = opL t i := by rw [opL_s, if_neg y]
          obtain ⟨m', z1, z2, z3, z4⟩ := ih (i + 1) M m2 (by omega) (by omega) (by rw [eo]; exact e1) (by rw [eo]; exact e2) e3
          refine ⟨m', ?_, z2, z3, z4⟩
          show f_X4_findOpen_7 N (mj_lp M (f_X4_findOpen_7 N)) (nI i, m2) = _
          generalize mj_lp M (f_X4_findOpen_7 N) = K at z1
          unfold f_X4_findOpen_7 f_X4_findOpen_58
          dsimp only
          rw [x_houses gs, if_neg (nI_ge hi (by omega)), e1, if_neg (show ¬ 5 ≤ nI (opL t i).length from (nI_ge (show (opL t i).length < 5 by omega) (by omega) : ¬ nI 5 ≤ nI (opL t i).length)), mj_ck_t (bb_5 (by omega)), nI_clamp (show i < 2 ^ 31 by omega), x_steps gs hi, if_neg (fun z => y ((nI_z (by omega)).mp z)), mw_eq, ← nI_succ]
          exact z1
  obtain ⟨m', z1, z2, z3, z4⟩ := H (t 13 1) 0 N (mj_wI m 48 13 0) (by omega) (by omega) wI_e (fun j hj => absurd hj (Nat.not_lt_zero j)) (Pd_w (Pd_r m) (by omega))
  exact ⟨m', by unfold f_X4_findOpen; rw [mw_eq]; exact z1, z2, z3, z4⟩
/-- those of a list that a number's bits name -/
def selL (O : List Nat) (b : Nat) : Nat → List Nat
  | 0 => []
  | i + 1 => if b.testBit i = true then selL O b i ++ [gd O i] else selL O b i
theorem selL_mem (O : List Nat) (b x : Nat) : ∀ i, x ∈ selL O b i ↔ ∃ j, j < i ∧ b.testBit j = true ∧ gd O j = x := by
  intro i
  induction i with
  | zero => exact ⟨fun z => (by cases z), fun ⟨j, hj, _⟩ => absurd hj (Nat.not_lt_zero _)⟩
  | succ i ih =>
    show x ∈ (if b.testBit i = true then selL O b i ++ [gd O i] else selL O b i) ↔ _
    by_cases q : b.testBit i = true
    · rw [if_pos q, List.mem_append, ih, List.mem_singleton]
      constructor
      · rintro (⟨j, h1, h2, h3⟩ | z)
        · exact ⟨j, by omega, h2, h3⟩
        · exact ⟨i, by omega, q, z.symm⟩
      · rintro ⟨j, h1, h2, h3⟩
        by_cases y : j = i
        · right; rw [← h3, y]
        · exact Or.inl ⟨j, by omega, h2, h3⟩
    · rw [if_neg q, ih]
      constructor
      · rintro ⟨j, h1, h2, h3⟩; exact ⟨j, by omega, h2, h3⟩
      · rintro ⟨j, h1, h2, h3⟩
        by_cases y : j = i
        · rw [y] at h2; exact absurd h2 q
        · exact ⟨j, by omega, h2, h3⟩
theorem stL_c {t : aT} {K K' : List Nat} (h : ∀ x, x ∈ K ↔ x ∈ K') : stL t K = stL t K' := by
  funext x
  unfold stL
  by_cases q : x ∈ K
  · rw [if_pos q, if_pos ((h x).mp q)]
  · rw [if_neg q, if_neg (fun z => q ((h x).mpr z))]
def Mns (m : mj_m) (t : aT) (n : Nat) : Prop := ∀ b, b < n → m.2 54 b = YM t (stL t (selL (opL t (t 13 1)) b (opL t (t 13 1)).length))
theorem reckon8 {m : mj_m} {t : aT} {u : Nat → Int32} (hG : Good t) (g : Rep (cg m 1 8) t u) (h5 : (opL t (t 13 1)).length ≤ 5) (h13 : m.1 48 13 = nI (opL t (t 13 1)).length) (hr : Rw m 51 (opL t (t 13 1))) {N : Nat} (hN : 1100 ≤ N) : ∃ m', f_X4_reckonMeans N m = some m' ∧ m'.1 48 13 = nI (opL t (t 13 1)).length ∧ Rw m' 51 (opL t (t 13 1)) ∧ Mns m' t (2 ^ (opL t (t 13 1)).length) ∧ Pd m m' := by
  have gh := GH hG
  generalize hO : opL t (t 13 1) = O at h5 h13 hr
  have Ox : ∀ x, x ∈ O → x < t 13 1 ∧ t 7 x = 0 := fun x hx => by rw [← hO] at hx; exact (opL_mem t x _).mp hx
  have nd : O.Nodup := by rw [← hO]; exact opL_nd t _
  have p5 : 2 ^ O.length ≤ 32 := (Nat.pow_le_pow_right (by decide) h5 : 2 ^ O.length ≤ 2 ^ 5)
  obtain ⟨m1, a1, a2, a3⟩ := weighYear8 hG g hN
  have pk : Pd m (mj_kI m1 5 50 0 0 10) := Pd_k (Od_P a3) (by omega)
  unfold f_X4_reckonMeans
  rw [a1, bind_some', mj_ck_t (by decide), mw_eq, show (0 : Int32).toNatClampNeg = 0 from rfl, show (10 : Int32).toNatClampNeg = 10 from rfl]
  obtain ⟨z, ⟨-, e2, e3, e4, e5, -, -⟩, e7⟩ := lp_cnt (B := f_X4_reckonMeans_27 N) (E := fun z => some z.2) (c := 2 ^ O.length) (N := N) (s0 := (0, mj_kI m1 5 50 0 0 10)) (fun b z => z.1 = nI b ∧ z.2.1 48 13 = nI O.length ∧ Rw z.2 51 O ∧ (∀ r, r < b → z.2.2 54 r = YM t (stL t (selL O r O.length))) ∧ Pd m z.2 ∧ WY z.2 t ∧ (∀ x, x < t 13 1 → x ∉ O → z.2.1 50 x = nI (t 7 x))) (by omega)
    ⟨rfl, by rw [kI_n (by omega), a3.1 _ _ (by omega)]; exact h13, fun j hj => by rw [kI_n (by omega), a3.1 _ _ (by omega)]; exact hr j hj, fun r hr => absurd hr (Nat.not_lt_zero r), pk, WY_e a2 (fun a k _ _ _ => kI_n (by omega)) (fun _ => rfl), fun x hx _ => by rw [kI_e (by omega)]; exact x_steps (Od_c hG g a3) hx⟩
    (fun b z hb ⟨e1, e2, e3, e4, e5, e6, e8⟩ => by
      obtain ⟨y, ⟨y1, y2, y3, y4⟩, y5⟩ := lp_cntK (K := Int32 × mj_m → Option mj_m) (B := fun κ => f_X4_reckonMeans_39 N κ (nI b)) (E := fun κ y => (f_X2_meanBy N 50 y.2).bind (fun r2 => mj_ck (mj_b 1 54 (nI b)) ( mj_mw (mj_wL r2.2 54 ((nI b).toNatClampNeg) r2.1) (fun m4 => mj_mw (nI b + 1) (fun x5 => κ (x5, m4)))))) (c := O.length) (N := N) (s0 := (0, z.2)) (fun i y => y.1 = nI i ∧ (∀ A k, A ≠ 50 → y.2.1 A k = z.2.1 A k) ∧ y.2.2 = z.2.2 ∧ (∀ x, x < t 13 1 → ((∃ j, i ≤ j ∧ j < O.length ∧ gd O j = x) ∨ y.2.1 50 x = nI (stL t (selL O b i) x)))) (by omega)
        ⟨rfl, fun _ _ _ => rfl, rfl, fun x hx => by
          by_cases q : x ∈ O
          · left
            obtain ⟨j, hj, ej⟩ := List.getElem_of_mem q
            exact ⟨j, Nat.zero_le _, hj, by rw [gd_q, List.getElem?_eq_getElem hj]; exact ej⟩
          · right
            rw [e8 x hx q]; rfl⟩
        (fun i y hi ⟨y1, y2, y3, y4⟩ => by
          obtain ⟨x1, x2⟩ := Ox _ (gd_mem hi)
          have k50 : mj_b 0 50 (nI (gd O i)) = true := bb_50 (by omega)
          refine ⟨(nI (i + 1), mj_wI y.2 50 (gd O i) (if b.testBit i = true then 1 else 0)), ⟨rfl, fun A k q => by rw [wI_n (by omega)]; exact y2 A k q, y3, fun x hx => ?_⟩, fun κ k => ?_⟩
          · by_cases q : x = gd O i
            · right
              rw [q, wI_e]
              show (if b.testBit i = true then (1 : Int32) else 0) = nI (if gd O i ∈ (if b.testBit i = true then selL O b i ++ [gd O i] else selL O b i) then t 7 (gd O i) + 1 else t 7 (gd O i))
              rw [x2]
              by_cases w : b.testBit i = true
              · rw [if_pos w, if_pos w, if_pos (List.mem_append.mpr (Or.inr (List.mem_singleton.mpr rfl)))]; rfl
              · rw [if_neg w, if_neg w, if_neg (fun v => by
                  obtain ⟨j, j1, j2, j3⟩ := (selL_mem O b _ i).mp v
                  have := gd_inj nd (show j < O.length by omega) hi j3
                  omega)]; rfl
            · rcases y4 x hx with ⟨j, j1, j2, j3⟩ | v
              · by_cases w : j = i
                · rw [w] at j3; exact absurd j3.symm q
                · exact Or.inl ⟨j, by omega, j2, j3⟩
              · right
                rw [wI_n (by omega), v]
                refine congrArg nI ?_
                unfold stL
                have : x ∈ selL O b i ↔ x ∈ selL O b (i + 1) := by
                  rw [selL_mem, selL_mem]
                  constructor
                  · rintro ⟨j, j1, j2, j3⟩; exact ⟨j, by omega, j2, j3⟩
                  · rintro ⟨j, j1, j2, j3⟩
                    by_cases w : j = i
                    · rw [w] at j3; exact absurd j3.symm q
                    · exact ⟨j, by omega, j2, j3⟩
                by_cases w : x ∈ selL O b i
                · rw [if_pos w, if_pos (this.mp w)]
                · rw [if_neg w, if_neg (fun v => w (this.mpr v))]
          · unfold f_X4_reckonMeans_39
            rw [y2 48 13 (by omega), e2, y1, if_neg (nI_ge hi (by omega)), mj_ck_t (bb_51 (by omega)), nI_clamp (show i < 2 ^ 31 by omega), y2 51 i (by omega), e3 i hi, mj_ck_t k50, nI_clamp (show gd O i < 2 ^ 31 by omega), n_bit b (by omega), mw_eq, mw_eq, nI_succ])
        (fun y ⟨y1, y2, y3, y4⟩ κ k => by
          unfold f_X4_reckonMeans_39
          rw [y2 48 13 (by omega), e2, y1, if_pos (nI_le (by omega) (by omega))])
      have py : Pd z.2 y.2 := ⟨fun a k q => y2 a k (by omega), fun a k _ => by rw [y3]⟩
      have sa : StA y.2 50 t (stL t (selL O b O.length)) := ⟨fun i hi => bb_50 hi, fun x hx => by
        refine ⟨(y4 x hx).resolve_left (fun ⟨j, j1, j2, _⟩ => by omega), ?_⟩
        have sl := st_le hG hx
        unfold stL
        by_cases w : x ∈ selL O b O.length
        · rw [if_pos w]
          obtain ⟨j, j1, j2, j3⟩ := (selL_mem O b x _).mp w
          have := (Ox _ (gd_mem j1)).2
          rw [j3] at this; omega
        · rw [if_neg w]; exact sl⟩
      obtain ⟨m4, d1, d2⟩ := meanY8 hG (Pd_c hG g (Pd_t e5 py)) (WY_e e6 (fun a k _ _ _ => y2 a k (by omega)) (fun k => by rw [y3])) (by decide) sa hN
      refine ⟨(nI (b + 1), mj_wL m4 54 b (YM t (stL t (selL O b O.length)))), ⟨rfl, by show m4.1 48 13 = _; rw [d2.1 _ _ (by omega), y2 48 13 (by omega)]; exact e2, fun j hj => by show m4.1 51 j = _; rw [d2.1 _ _ (by omega), y2 51 j (by omega)]; exact e3 j hj, fun r hr => ?_, Pd_L (Pd_t e5 (Pd_t py (Od_P (Os_O d2)))) (by omega), WY_e (Os_W d2 (WY_e e6 (fun a k _ _ _ => y2 a k (by omega)) (fun k => by rw [y3]))) (fun _ _ _ _ _ => rfl) (fun k => wL_n (by omega)), fun x hx hxO => ?_⟩, fun k => ?_⟩
      · by_cases w : r = b
        · rw [w, wL_e]
        · rw [wL_n (by omega), d2.2 54 r (by omega) (by omega), y3]; exact e4 r (by omega)
      · show m4.1 50 x = _
        rw [d2.1 _ _ (by omega), (sa.2 x hx).1]
        refine congrArg nI (if_neg (fun w => ?_))
        obtain ⟨j, j1, j2, j3⟩ := (selL_mem O b x _).mp w
        exact hxO (by rw [← j3]; exact gd_mem j1)
      · unfold f_X4_reckonMeans_27
        rw [e2, n_shl _ (by omega), e1, if_neg (nI_ge hb (by omega)), y5, d1, bind_some', mj_ck_t (bb_54 (by omega)), nI_clamp (by omega), mw_eq, mw_eq, nI_succ])
    (fun z ⟨e1, e2, _⟩ k => by
      unfold f_X4_reckonMeans_27
      rw [e2, n_shl _ (by omega), e1, if_pos (nI_le (by omega) (by omega))])
  refine ⟨z.2, e7, e2, e3, ?_, e5⟩
  unfold Mns
  rw [hO]
  exact e4
/-- the loss of a turn is the loss of its plan -/
theorem turnIn {m : mj_m} {t : aT} {u : Nat → Int32} (hG : Good t) (g : Rep (cg m 1 8) t u) {O T : List Nat} (hO : ∀ x, x ∈ O → x < t 13 1 ∧ t 7 x = 0) (nd : O.Nodup) (h5 : O.length ≤ 5) (h13 : m.1 48 13 = nI O.length) (hr : Rw m 51 O) (hT : T.length = O.length) (hTx : ∀ x, x ∈ T → x < O.length) (hTn : T.Nodup) (ht : Rw m 52 T) (N : Nat) {κ : Int32 × Int32 × Int32 × Int64 × Int32 → Option Int64} {v1 v7 : Int32} {v5 : Int64} : ∀ (d M b : Nat) (s : yS), s.2.2.1 + d = O.length → d < M → s.2.1 = stL t ((rwT O T).take s.2.2.1) → (b < 32 ∧ ∀ j, j < 5 → b.testBit j = decide (j ∈ T.take s.2.2.1)) →
    ∃ b', mj_lp M (f_X4_lossOfTurn_38 N κ v1 v5 v7 m) (s.1, nI s.2.2.1, nI b, nI s.2.2.1) = f_X4_lossOfTurn_125 N κ v1 (spn t (rwT O T) d s).1 (nI (spn t (rwT O T) d s).2.2.1) (nI b') v5 v7 m ∧ (spn t (rwT O T) d s).2.1 = stL t ((rwT O T).take (spn t (rwT O T) d s).2.2.1) ∧ (b' < 32 ∧ ∀ j, j < 5 → b'.testBit j = decide (j ∈ T.take (spn t (rwT O T) d s).2.2.1)) ∧ (spn t (rwT O T) d s).2.2.1 ≤ O.length := by
  have gh := GH hG
  intro d
  induction d with
  | zero =>
    intro M b s h1 h2 h3 h4
    obtain ⟨M, rfl⟩ : ∃ k, M = k + 1 := ⟨M - 1, by omega⟩
    refine ⟨b, ?_, h3, h4, by show s.2.2.1 ≤ _; omega⟩
    show f_X4_lossOfTurn_38 N κ v1 v5 v7 m (mj_lp M _) _ = _
    unfold f_X4_lossOfTurn_38
    dsimp only
    rw [h13, if_pos (nI_le (by omega) (by omega))]
    rfl
  | succ d ih =>
    intro M b s h1 h2 h3 h4
    obtain ⟨M, rfl⟩ : ∃ k, M = k + 1 := ⟨M - 1, by omega⟩
    have ha : s.2.2.1 < T.length := by omega
    have tx := hTx _ (gd_mem ha)
    have gw : gd (rwT O T) s.2.2.1 = gd O (gd T s.2.2.1) := rwT_gd ha
    obtain ⟨x1, x2⟩ := hO _ (gd_mem tx)
    obtain ⟨c1, c2⟩ := (hG.2.1 _ x1).2.2.2.2.1
    have notin : gd T s.2.2.1 ∉ T.take s.2.2.1 := fun y => by
      obtain ⟨j, hj, ej⟩ := List.getElem_of_mem y
      rw [List.length_take] at hj
      have e : gd T j = gd T s.2.2.1 := by
        rw [gd_q T j, List.getElem?_eq_getElem (show j < T.length by omega)]
        rw [List.getElem_take] at ej
        exact ej
      have := gd_inj hTn (by omega) ha e
      omega
    have tk : ∀ (A : List Nat) (i : Nat), i < A.length → A.take (i + 1) = A.take i ++ [gd A i] := fun A i hi => by
      rw [List.take_succ_eq_append_getElem hi, gd_q, List.getElem?_eq_getElem hi]; rfl
    have nw : gd (rwT O T) s.2.2.1 ∉ (rwT O T).take s.2.2.1 := fun y => by
      unfold rwT at y
      rw [← List.map_take, List.mem_map] at y
      obtain ⟨j, j1, j2⟩ := y
      rw [show gd (List.map (gd O) T) s.2.2.1 = gd O (gd T s.2.2.1) from gw] at j2
      have := gd_inj nd (hTx j (List.mem_of_mem_take j1)) tx j2
      rw [this] at j1
      exact notin j1
    have st0 : s.2.1 (gd (rwT O T) s.2.2.1) = 0 := by
      rw [h3]
      show (if _ then _ else _) = _
      rw [if_neg nw, gw, x2]
    have k52 : mj_b 0 52 (nI s.2.2.1) = true := bb_52 (by omega)
    have k51 : mj_b 0 51 (nI (gd T s.2.2.1)) = true := bb_51 (by omega)
    have k4 : mj_b 2 4 (nI (gd O (gd T s.2.2.1))) = true := bb_4 (by omega)
    by_cases y : nI (t 4 (gd (rwT O T) s.2.2.1)) ≤ s.1
    · have sp := spn_y (d := d) (t := t) (L := rwT O T) (s := s) (by rw [st0]; omega) y
      obtain ⟨b', i1, i2, i3, i4⟩ := ih M (b ||| 2 ^ gd T s.2.2.1) (s.1 - nI (t 4 (gd (rwT O T) s.2.2.1)), inc s.2.1 (gd (rwT O T) s.2.2.1), s.2.2.1 + 1, s.2.2.2 + 1) (by show s.2.2.1 + 1 + d = _; omega) (by omega) (by
          show inc s.2.1 (gd (rwT O T) s.2.2.1) = stL t ((rwT O T).take (s.2.2.1 + 1))
          rw [tk (rwT O T) s.2.2.1 (by rw [rwT_len]; exact ha), stL_snoc t nw, h3]) (by
          refine ⟨Nat.or_lt_two_pow (n := 5) h4.1 (pw_lt (show gd T s.2.2.1 < 5 by omega)), fun j hj => ?_⟩
          show _ = decide (j ∈ T.take (s.2.2.1 + 1))
          rw [tk T s.2.2.1 ha, Nat.testBit_or, h4.2 j hj, Nat.testBit_two_pow, ← Bool.decide_or]
          refine decide_eq_decide.mpr ?_
          rw [List.mem_append, List.mem_singleton]
          exact ⟨fun z => z.elim Or.inl (fun w => Or.inr w.symm), fun z => z.elim Or.inl (fun w => Or.inr w.symm)⟩)
      rw [sp]
      refine ⟨b', ?_, i2, i3, i4⟩
      show f_X4_lossOfTurn_38 N κ v1 v5 v7 m (mj_lp M (f_X4_lossOfTurn_38 N κ v1 v5 v7 m)) _ = _
      generalize mj_lp M (f_X4_lossOfTurn_38 N κ v1 v5 v7 m) = K at i1
      rw [gw] at y i1 ⊢
      unfold f_X4_lossOfTurn_38
      dsimp only
      rw [h13, if_neg (nI_ge (show s.2.2.1 < O.length by omega) (by omega)), mj_ck_t k52, nI_clamp (show s.2.2.1 < 2 ^ 31 by omega), ht _ ha, mj_ck_t k51, nI_clamp (show gd T s.2.2.1 < 2 ^ 31 by omega), hr _ tx, mj_ck_t k4, nI_clamp (show gd O (gd T s.2.2.1) < 2 ^ 31 by omega), x_cost g x1, if_neg (fun z => by rw [Int32.lt_iff_toInt_lt] at z; rw [Int32.le_iff_toInt_le] at y; omega), mw_eq, mw_eq, mw_eq, mw_eq, n_shl _ (by omega), n_or, ← nI_succ]
      exact i1
    · have sp := spn_n (d := d) (t := t) (L := rwT O T) (s := s) (by rw [st0]; omega) y
      rw [sp]
      refine ⟨b, ?_, h3, h4, by omega⟩
      show f_X4_lossOfTurn_38 N κ v1 v5 v7 m (mj_lp M _) _ = _
      rw [gw] at y
      unfold f_X4_lossOfTurn_38
      dsimp only
      rw [h13, if_neg (nI_ge (show s.2.2.1 < O.length by omega) (by omega)), mj_ck_t k52, nI_clamp (show s.2.2.1 < 2 ^ 31 by omega), ht _ ha, mj_ck_t k51, nI_clamp (show gd T s.2.2.1 < 2 ^ 31 by omega), hr _ tx, mj_ck_t k4, nI_clamp (show gd O (gd T s.2.2.1) < 2 ^ 31 by omega), x_cost g x1, if_pos (by rw [Int32.lt_iff_toInt_lt]; rw [Int32.le_iff_toInt_le] at y; omega)]
theorem turn8 {m : mj_m} {t : aT} {u : Nat → Int32} (hG : Good t) (g : Rep (cg m 1 8) t u) {T : List Nat} (h5 : (opL t (t 13 1)).length ≤ 5) (h13 : m.1 48 13 = nI (opL t (t 13 1)).length) (hr : Rw m 51 (opL t (t 13 1))) (hM : Mns m t (2 ^ (opL t (t 13 1)).length)) (hT : T.length = (opL t (t 13 1)).length) (hTx : ∀ x, x ∈ T → x < (opL t (t 13 1)).length) (hTn : T.Nodup) (ht : Rw m 52 T) {n : Nat} (hn : n ≤ 20) {N : Nat} (hN : 1100 ≤ N) : f_X4_lossOfTurn N (nI n) m = some (lsY t (rwT (opL t (t 13 1)) T) (s0Y t u) n) := by
  have gh := GH hG
  have Ox : ∀ x, x ∈ opL t (t 13 1) → x < t 13 1 ∧ t 7 x = 0 := fun x hx => (opL_mem t x _).mp hx
  have nd := opL_nd t (t 13 1)
  unfold Mns at hM
  generalize hO : opL t (t 13 1) = O at h5 h13 hr hM hT hTx Ox nd ⊢
  unfold f_X4_lossOfTurn
  rw [mw_eq, x_purse g]
  obtain ⟨z, ⟨-, e2, -⟩, e7⟩ := lp_cnt (B := f_X4_lossOfTurn_19 N (nI n) m) (E := fun z => some z.2.2.2.1) (c := n) (N := N) (s0 := (u 0, 0, 0, 0, 0)) (fun y z => z.2.2.2.2 = nI y ∧ z.2.2.2.1 = lsY t (rwT O T) (s0Y t u) y ∧ z.1 = (stY t (rwT O T) (s0Y t u) y).1 ∧ z.2.1 = nI (stY t (rwT O T) (s0Y t u) y).2.2.1 ∧ (∃ b, z.2.2.1 = nI b ∧ b < 32 ∧ ∀ j, j < 5 → b.testBit j = decide (j ∈ T.take (stY t (rwT O T) (s0Y t u) y).2.2.1)) ∧ (stY t (rwT O T) (s0Y t u) y).2.1 = stL t ((rwT O T).take (stY t (rwT O T) (s0Y t u) y).2.2.1) ∧ (stY t (rwT O T) (s0Y t u) y).2.2.1 ≤ O.length) (by omega)
    ⟨rfl, rfl, rfl, rfl, ⟨0, rfl, by decide, fun j _ => by rw [Nat.zero_testBit]; rfl⟩, rfl, Nat.zero_le _⟩
    (fun y z hy ⟨e1, e2, e3, e4, ⟨b, e5, e6, e8⟩, e9, e10⟩ => by
      have lr : (rwT O T).length = O.length := by rw [rwT_len, hT]
      have main : ∀ κ : Int32 × Int32 × Int32 × Int64 × Int32 → Option Int64, ∃ b', mj_lp N (f_X4_lossOfTurn_38 N κ (nI n) (lsY t (rwT O T) (s0Y t u) y) (nI y) m) ((stY t (rwT O T) (s0Y t u) y).1 + nI (t 13 3), nI (stY t (rwT O T) (s0Y t u) y).2.2.1, nI b, nI (stY t (rwT O T) (s0Y t u) y).2.2.1) = f_X4_lossOfTurn_125 N κ (nI n) (stY t (rwT O T) (s0Y t u) (y + 1)).1 (nI (stY t (rwT O T) (s0Y t u) (y + 1)).2.2.1) (nI b') (lsY t (rwT O T) (s0Y t u) y) (nI y) m ∧ (stY t (rwT O T) (s0Y t u) (y + 1)).2.1 = stL t ((rwT O T).take (stY t (rwT O T) (s0Y t u) (y + 1)).2.2.1) ∧ (b' < 32 ∧ ∀ j, j < 5 → b'.testBit j = decide (j ∈ T.take (stY t (rwT O T) (s0Y t u) (y + 1)).2.2.1)) ∧ (stY t (rwT O T) (s0Y t u) (y + 1)).2.2.1 ≤ O.length := fun κ => by
        have := turnIn hG g Ox nd h5 h13 hr hT hTx hTn ht N (κ := κ) (v1 := nI n) (v7 := nI y) (v5 := lsY t (rwT O T) (s0Y t u) y) (O.length - (stY t (rwT O T) (s0Y t u) y).2.2.1) N b ((stY t (rwT O T) (s0Y t u) y).1 + nI (t 13 3), (stY t (rwT O T) (s0Y t u) y).2.1, (stY t (rwT O T) (s0Y t u) y).2.2.1, (stY t (rwT O T) (s0Y t u) y).2.2.2) (by show (stY t (rwT O T) (s0Y t u) y).2.2.1 + _ = _; omega) (by omega) e9 ⟨e6, e8⟩
        rw [← lr] at this
        have e : stY t (rwT O T) (s0Y t u) (y + 1) = spn t (rwT O T) ((rwT O T).length - (stY t (rwT O T) (s0Y t u) y).2.2.1) ((stY t (rwT O T) (s0Y t u) y).1 + nI (t 13 3), (stY t (rwT O T) (s0Y t u) y).2.1, (stY t (rwT O T) (s0Y t u) y).2.2.1, (stY t (rwT O T) (s0Y t u) y).2.2.2) := rfl
        rw [e, ← lr]
        exact this
      obtain ⟨b', -, r2, ⟨r3, r4⟩, r5⟩ := main (fun _ => none)
      have key : ∀ b', b' < 32 → (∀ j, j < 5 → b'.testBit j = decide (j ∈ T.take (stY t (rwT O T) (s0Y t u) (y + 1)).2.2.1)) → b' < 2 ^ O.length ∧ m.2 54 b' = YM t (stY t (rwT O T) (s0Y t u) (y + 1)).2.1 := fun b' q1 q2 => by
        have lt : b' < 2 ^ O.length := by
          refine Nat.lt_pow_two_of_testBit b' (fun j hj => ?_)
          rcases Nat.lt_or_ge j 5 with w | w
          · rw [q2 j w]
            exact decide_eq_false (fun v => by have := hTx j (List.mem_of_mem_take v); omega)
          · exact Nat.testBit_lt_two_pow (Nat.lt_of_lt_of_le q1 (Nat.pow_le_pow_right (by decide) w : 2 ^ 5 ≤ 2 ^ j))
        refine ⟨lt, ?_⟩
        rw [hM b' lt, r2]
        refine congrArg (YM t) (stL_c (fun x => ?_))
        unfold rwT
        rw [selL_mem, ← List.map_take, List.mem_map]
        constructor
        · rintro ⟨j, j1, j2, j3⟩
          rw [q2 j (by omega)] at j2
          exact ⟨j, of_decide_eq_true j2, j3⟩
        · rintro ⟨j, j1, j2⟩
          have := hTx j (List.mem_of_mem_take j1)
          exact ⟨j, this, by rw [q2 j (by omega)]; exact decide_eq_true j1, j2⟩
      refine ⟨((stY t (rwT O T) (s0Y t u) (y + 1)).1, nI (stY t (rwT O T) (s0Y t u) (y + 1)).2.2.1, nI b', lsY t (rwT O T) (s0Y t u) (y + 1), nI (y + 1)), ⟨rfl, rfl, rfl, rfl, ⟨b', rfl, r3, r4⟩, r2, r5⟩, fun k => ?_⟩
      obtain ⟨b2, s1, -, ⟨s3, s4⟩, -⟩ := main k
      have bb : b2 = b' := by
        refine Nat.eq_of_testBit_eq (fun j => ?_)
        rcases Nat.lt_or_ge j 5 with w | w
        · rw [s4 j w, r4 j w]
        · rw [Nat.testBit_lt_two_pow (Nat.lt_of_lt_of_le s3 (Nat.pow_le_pow_right (by decide) w : 2 ^ 5 ≤ 2 ^ j)), Nat.testBit_lt_two_pow (Nat.lt_of_lt_of_le r3 (Nat.pow_le_pow_right (by decide) w : 2 ^ 5 ≤ 2 ^ j))]
      rw [bb] at s1
      obtain ⟨k1, k2⟩ := key b' r3 r4
      unfold f_X4_lossOfTurn_19
      rw [e1, if_neg (nI_ge hy (by omega)), mw_eq, e3, x_coin g, e4, e5, e2, s1]
      unfold f_X4_lossOfTurn_125
      rw [mj_ck_t (bb_54 r3), nI_clamp (by omega), k2, mw_eq, mw_eq, nI_succ]
      rfl)
    (fun z ⟨e1, _⟩ k => by
      unfold f_X4_lossOfTurn_19
      rw [e1, if_pos (nI_le (by omega) (by omega))])
  rw [e7, e2]
