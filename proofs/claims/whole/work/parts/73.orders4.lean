/-! ORDERS: SAVES -/
def stL (t : aT) (L : List Nat) : Nat → Nat := fun i => if i ∈ L then t 7 i + 1 else t 7 i
def elg (t : aT) (a : Nat) (L : List Nat) (n : Nat) : Prop := t 7 n ≠ 2 ∧ t 4 n ≤ a ∧ n ∉ L
def msN (t : aT) (a : Nat) (L : List Nat) : Nat → Int32 × Int64
  | 0 => (-1, 0)
  | n + 1 => if t 7 n ≠ 2 ∧ t 4 n ≤ a ∧ n ∉ L then (if (msN t a L n).1 = -1 ∨ lg_cmp (YM t (inc (stL t L) n)) (msN t a L n).2 < 0 then (nI n, YM t (inc (stL t L) n)) else msN t a L n) else msN t a L n
theorem msN_y {t : aT} {a : Nat} {L : List Nat} {n : Nat} (h : elg t a L n) : msN t a L (n + 1) = if (msN t a L n).1 = -1 ∨ lg_cmp (YM t (inc (stL t L) n)) (msN t a L n).2 < 0 then (nI n, YM t (inc (stL t L) n)) else msN t a L n := if_pos h
theorem msN_n {t : aT} {a : Nat} {L : List Nat} {n : Nat} (h : ¬ elg t a L n) : msN t a L (n + 1) = msN t a L n := if_neg h
theorem msN_cases (t : aT) (a : Nat) (L : List Nat) : ∀ n, n < 1000 → ((msN t a L n).1 = -1 ∧ ∀ h, h < n → ¬ elg t a L h) ∨ ∃ h, h < n ∧ (msN t a L n).1 = nI h ∧ elg t a L h := by
  intro n
  induction n with
  | zero => intro _; exact Or.inl ⟨rfl, fun h hh => absurd hh (Nat.not_lt_zero _)⟩
  | succ n ih =>
    intro hn
    by_cases q : elg t a L n
    · right
      rw [msN_y q]
      by_cases y : (msN t a L n).1 = -1 ∨ lg_cmp (YM t (inc (stL t L) n)) (msN t a L n).2 < 0
      · rw [if_pos y]; exact ⟨n, by omega, rfl, q⟩
      · rw [if_neg y]
        rcases ih (by omega) with ⟨h1, h2⟩ | ⟨h, h1, h2, h3⟩
        · exact absurd (Or.inl h1) y
        · exact ⟨h, by omega, h2, h3⟩
    · rw [msN_n q]
      rcases ih (by omega) with ⟨h1, h2⟩ | ⟨h, h1, h2, h3⟩
      · refine Or.inl ⟨h1, fun h hh => ?_⟩
        by_cases z : h = n
        · rw [z]; exact q
        · exact h2 h (by omega)
      · exact Or.inr ⟨h, by omega, h2, h3⟩
def nxL (t : aT) (a : Nat) (L : List Nat) : List Nat := if (msN t a L (t 13 1)).1 = -1 then L else L ++ [(msN t a L (t 13 1)).1.toNatClampNeg]
def svL (t : aT) (a : Nat) : Nat → List Nat
  | 0 => []
  | i + 1 => nxL t a (svL t a i)
theorem nxL_n {t : aT} {a : Nat} {L : List Nat} (h : (msN t a L (t 13 1)).1 = -1) : nxL t a L = L := if_pos h
theorem nxL_y {t : aT} {a : Nat} {L : List Nat} {h : Nat} (hh : h < 1000) (e : (msN t a L (t 13 1)).1 = nI h) : nxL t a L = L ++ [h] := by
  unfold nxL
  rw [if_neg (by rw [e]; exact nI_neg h (by omega)), e, nI_clamp (by omega)]
theorem svL_fix {t : aT} {a i : Nat} (h : (msN t a (svL t a i) (t 13 1)).1 = -1) : ∀ d, svL t a (i + d) = svL t a i := by
  intro d
  induction d with
  | zero => rfl
  | succ d ih =>
    show nxL t a (svL t a (i + d)) = _
    rw [ih, nxL_n h]
def SvO (t : aT) (a : Nat) (L : List Nat) : Prop := L.Nodup ∧ ∀ x, x ∈ L → x < t 13 1 ∧ t 7 x ≠ 2 ∧ t 4 x ≤ a
theorem SvO_snoc {t : aT} {a h : Nat} {L : List Nat} (o : SvO t a L) (hh : h < t 13 1) (e : elg t a L h) : SvO t a (L ++ [h]) := by
  refine ⟨nd_snoc o.1 e.2.2, fun x hx => ?_⟩
  rcases List.mem_append.mp hx with z | z
  · exact o.2 x z
  · rw [List.mem_singleton] at z; rw [z]; exact ⟨hh, e.1, e.2.1⟩
theorem stL_le {t : aT} (hG : Good t) {a : Nat} {L : List Nat} (o : SvO t a L) {i : Nat} (hi : i < t 13 1) : stL t L i ≤ 2 := by
  have := st_le hG hi
  unfold stL
  by_cases q : i ∈ L
  · rw [if_pos q]; have := (o.2 i q).2.1; omega
  · rw [if_neg q]; exact this
theorem inc_le {t : aT} (hG : Good t) {a h : Nat} {L : List Nat} (o : SvO t a L) (e : elg t a L h) {i : Nat} (hi : i < t 13 1) : inc (stL t L) h i ≤ 2 := by
  have := stL_le hG o hi
  unfold inc
  by_cases q : i = h
  · rw [if_pos q, q]
    unfold stL
    rw [if_neg e.2.2]
    have := e.1
    have := st_le hG (show h < t 13 1 by omega)
    omega
  · rw [if_neg q]; exact this
theorem stL_snoc (t : aT) {L : List Nat} {h : Nat} (hh : h ∉ L) : stL t (L ++ [h]) = inc (stL t L) h := by
  funext i
  show (if i ∈ L ++ [h] then t 7 i + 1 else t 7 i) = if i = h then (if i ∈ L then t 7 i + 1 else t 7 i) + 1 else (if i ∈ L then t 7 i + 1 else t 7 i)
  by_cases q : i = h
  · subst q
    rw [if_pos rfl, if_pos (List.mem_append.mpr (Or.inr (List.mem_singleton.mpr rfl))), if_neg hh]
  · rw [if_neg q]
    by_cases y : i ∈ L
    · rw [if_pos y, if_pos (List.mem_append.mpr (Or.inl y))]
    · rw [if_neg y, if_neg (fun z => by
        rcases List.mem_append.mp z with z | z
        · exact y z
        · exact q (List.mem_singleton.mp z))]
def bitsL (b : Nat) (L : List Nat) : Prop := b < 1024 ∧ ∀ h, h < 10 → b.testBit h = decide (h ∈ L)
theorem bits_0 : bitsL 0 [] := ⟨by decide, fun h _ => by rw [Nat.zero_testBit]; rfl⟩
theorem bits_s {b h : Nat} {L : List Nat} (q : bitsL b L) (hh : h < 10) : bitsL (b ||| 2 ^ h) (L ++ [h]) := by
  refine ⟨Nat.or_lt_two_pow (n := 10) q.1 (pw_lt (show h < 10 by omega)), fun x hx => ?_⟩
  rw [Nat.testBit_or, q.2 x hx, Nat.testBit_two_pow, ← Bool.decide_or]
  refine decide_eq_decide.mpr ?_
  rw [List.mem_append, List.mem_singleton]
  exact ⟨fun z => z.elim Or.inl (fun y => Or.inr y.symm), fun z => z.elim Or.inl (fun y => Or.inr y.symm)⟩
def Om (m m' : mj_m) : Prop := (∀ a k, a ≠ 39 → a ≠ 47 → m'.1 a k = m.1 a k) ∧ (∀ a k, a ≠ 43 → a ≠ 44 → m'.2 a k = m.2 a k)
theorem Om_r (m : mj_m) : Om m m := ⟨fun _ _ _ _ => rfl, fun _ _ _ _ => rfl⟩
theorem Om_t {m m' m'' : mj_m} (h : Om m m') (h' : Om m' m'') : Om m m'' := ⟨fun a k q r => (h'.1 a k q r).trans (h.1 a k q r), fun a k q r => (h'.2 a k q r).trans (h.2 a k q r)⟩
theorem Os_m {m m' : mj_m} (h : Os m m') : Om m m' := ⟨fun a k q _ => h.1 a k q, h.2⟩
theorem Om_w {m : mj_m} {k : Nat} {v : Int32} : Om m (mj_wI m 47 k v) := ⟨fun a j _ q => wI_n (by omega), fun _ _ _ _ => rfl⟩
theorem Om_P {m m' : mj_m} (h : Om m m') : Pd m m' := ⟨fun a k q => h.1 a k (by omega) (by omega), fun a k q => h.2 a k (by omega) (by omega)⟩
theorem Om_W {m m' : mj_m} {t : aT} (h : Om m m') (w : WY m t) : WY m' t := WY_e w (fun a k _ _ q => h.1 a k q (by omega)) (fun k => h.2 42 k (by omega) (by omega))
theorem lg0n (x y : Int64) : 0 ≤ lg_cmp x y ↔ ¬ lg_cmp x y < 0 := by rw [Int32.le_iff_toInt_le, Int32.lt_iff_toInt_lt]; omega
theorem most8 {m : mj_m} {t : aT} {u : Nat → Int32} (hG : Good t) (g : Rep (cg m 1 8) t u) (w : WY m t) {a b : Nat} {L : List Nat} (ha : a ≤ 99) (o : SvO t a L) (hs : ∀ i, i < t 13 1 → m.1 47 i = nI (stL t L i)) (hb : bitsL b L) {N : Nat} (hN : 1100 ≤ N) : ∃ m', f_X3_mostSaving N (nI a) (nI b) m = some ((msN t a L (t 13 1)).1, m') ∧ Om m m' ∧ (∀ i, i < t 13 1 → m'.1 47 i = nI (stL t L i)) := by
  have gh := GH hG
  unfold f_X3_mostSaving
  obtain ⟨s, ⟨-, r2, r3, r4⟩, r5⟩ := lp_cnt (B := f_X3_mostSaving_8 N (nI a) (nI b)) (E := fun s => some (s.1, s.2.2.2)) (c := t 13 1) (N := N) (s0 := ((-1 : Int32), 0, 0, m)) (fun i s => s.2.2.1 = nI i ∧ (s.1, s.2.1) = msN t a L i ∧ Om m s.2.2.2 ∧ (∀ i, i < t 13 1 → s.2.2.2.1 47 i = nI (stL t L i))) (by omega)
    ⟨rfl, rfl, Om_r m, hs⟩
    (fun i s hi ⟨e1, e2, e3, e4⟩ => by
      have gs := Pd_c hG g (Om_P e3)
      have sl := st_le hG hi
      obtain ⟨c1, c2⟩ := (hG.2.1 i hi).2.2.2.2.1
      have u1 : s.1 = (msN t a L i).1 := by rw [← e2]
      have u2 : s.2.1 = (msN t a L i).2 := by rw [← e2]
      by_cases q : elg t a L i
      · have q1 := q.1
        have l2 : ∀ j, j < t 13 1 → (mj_wI s.2.2.2 47 i (nI (stL t L i + 1))).1 47 j = nI (inc (stL t L) i j) ∧ inc (stL t L) i j ≤ 2 := fun j hj => by
          refine ⟨?_, inc_le hG o q hj⟩
          unfold inc
          by_cases y : j = i
          · rw [if_pos y, y, wI_e]
          · rw [if_neg y, wI_n (by omega)]; exact e4 j hj
        have g1 := Pd_c hG gs (Om_P (Om_w (m := s.2.2.2) (k := i) (v := nI (stL t L i + 1))))
        obtain ⟨m2, d1, d2⟩ := meanY8 hG g1 (Om_W (Om_t e3 Om_w) w) (by decide) (⟨fun j hj => bb_47 hj, l2⟩ : StA _ 47 t (inc (stL t L) i)) hN
        refine ⟨((msN t a L (i + 1)).1, (msN t a L (i + 1)).2, nI (i + 1), mj_wI m2 47 i (nI (stL t L i))), ⟨rfl, rfl, Om_t e3 (Om_t Om_w (Om_t (Os_m d2) Om_w)), fun j hj => ?_⟩, fun k => ?_⟩
        · by_cases y : j = i
          · rw [y, wI_e]
          · rw [wI_n (by omega), d2.1 47 j (by omega), wI_n (by omega)]; exact e4 j hj
        · have v47 : m2.1 47 i = nI (stL t L i + 1) := by rw [d2.1 47 i (by omega), wI_e]
          unfold f_X3_mostSaving_8 f_X3_mostSaving_108 f_X3_mostSaving_115
          rw [x_houses gs, e1, if_neg (nI_ge hi (by omega)), mj_ck_t (bb_5 (by omega)), nI_clamp (by omega), x_steps gs hi, if_neg (show ¬ 2 ≤ nI (t 7 i) from (nI_ge (show t 7 i < 2 by omega) (by omega) : ¬ nI 2 ≤ nI (t 7 i))), mj_ck_t (bb_4 (by omega)), x_cost gs hi, if_neg (nI_nlt q.2.1 (by omega)), if_pos ((n_bit0 b (by omega)).mpr (by rw [hb.2 i (by omega)]; exact decide_eq_false q.2.2)), mj_ck_t (bb_47 (by omega)), mw_eq, e4 i hi, ← nI_succ, d1, bind_some', mw_eq, v47, nI_pred, u1, u2, msN_y q, nI_succ]
          simp only [mw_eq]
          by_cases y1 : (msN t a L i).1 = -1
          · rw [if_pos y1, if_pos (Or.inl y1)]
          · rw [if_neg y1]
            by_cases y2 : lg_cmp (YM t (inc (stL t L) i)) (msN t a L i).2 < 0
            · rw [if_neg (fun z => (lg0n _ _).mp z y2), if_pos (Or.inr y2)]
            · rw [if_pos ((lg0n _ _).mpr y2), if_neg (fun z => z.elim y1 y2)]
      · refine ⟨(s.1, s.2.1, nI (i + 1), s.2.2.2), ⟨rfl, by rw [msN_n q]; exact e2, e3, e4⟩, fun k => ?_⟩
        unfold f_X3_mostSaving_8 f_X3_mostSaving_115
        rw [x_houses gs, e1, if_neg (nI_ge hi (by omega)), mj_ck_t (bb_5 (by omega)), nI_clamp (by omega), x_steps gs hi]
        by_cases y1 : t 7 i = 2
        · rw [y1, if_pos (by decide), mw_eq, nI_succ]
        · rw [if_neg (show ¬ 2 ≤ nI (t 7 i) from (nI_ge (show t 7 i < 2 by omega) (by omega) : ¬ nI 2 ≤ nI (t 7 i))), mj_ck_t (bb_4 (by omega)), x_cost gs hi]
          by_cases y2 : a < t 4 i
          · rw [if_pos (nI_lt y2 (by omega)), mw_eq, nI_succ]
          · have y3 : i ∈ L := Decidable.byContradiction (fun z => q ⟨y1, by omega, z⟩)
            rw [if_neg (nI_nlt (by omega) (by omega)), if_neg (fun z => by
              have := (n_bit0 b (by omega)).mp z
              rw [hb.2 i (by omega), decide_eq_true y3] at this; cases this), mw_eq, nI_succ])
    (fun s ⟨e1, _, e3, _⟩ k => by
      have gs := Pd_c hG g (Om_P e3)
      unfold f_X3_mostSaving_8
      rw [x_houses gs, e1, if_pos (nI_le (by omega) (by omega))])
  exact ⟨s.2.2.2, by rw [r5, ← r2], r3, r4⟩
def restC (t : aT) (a : Nat) (T : List Nat) : Nat → List Nat
  | 0 => T
  | h + 1 => if t 7 h ≠ 2 ∧ a < t 4 h then restC t a T h ++ [h] else restC t a T h
theorem restC_s (t : aT) (a : Nat) (T : List Nat) (h : Nat) : restC t a T (h + 1) = if t 7 h ≠ 2 ∧ a < t 4 h then restC t a T h ++ [h] else restC t a T h := rfl
theorem restC_eq {t : aT} {a : Nat} {T : List Nat} (o : SvO t a T) (none : ∀ h, h < t 13 1 → ¬ elg t a T h) : ∀ h, h ≤ t 13 1 → restC t a T h = restL t T h := by
  intro h
  induction h with
  | zero => intro _; rfl
  | succ h ih =>
    intro hh
    have i1 := ih (by omega)
    rw [restC_s, restL_s, i1]
    have e : (t 7 h ≠ 2 ∧ a < t 4 h) ↔ (t 7 h ≠ 2 ∧ h ∉ restL t T h) := by
      refine ⟨fun z => ⟨z.1, fun y => ?_⟩, fun z => ⟨z.1, ?_⟩⟩
      · rcases (restL_mem _ _ _).mp y with y | y
        · have := (o.2 h y).2.2; omega
        · omega
      · rcases Nat.lt_or_ge a (t 4 h) with y | y
        · exact y
        · exact absurd ⟨z.1, y, fun w => z.2 ((restL_mem _ _ _).mpr (Or.inl w))⟩ (none h (by omega))
    by_cases q : t 7 h ≠ 2 ∧ a < t 4 h
    · rw [if_pos q, if_pos (e.mp q)]
    · rw [if_neg q, if_neg (fun z => q (e.mpr z))]
theorem sv_ok {t : aT} (hb : t 13 1 ≤ 10) (a : Nat) : ∀ i, SvO t a (svL t a i) ∧ ((svL t a i).length = i ∨ (msN t a (svL t a i) (t 13 1)).1 = -1) := by
  intro i
  induction i with
  | zero => exact ⟨⟨List.nodup_nil, fun x hx => by cases hx⟩, Or.inl rfl⟩
  | succ i ih =>
    obtain ⟨o, l⟩ := ih
    show SvO t a (nxL t a (svL t a i)) ∧ ((nxL t a (svL t a i)).length = i + 1 ∨ (msN t a (nxL t a (svL t a i)) (t 13 1)).1 = -1)
    rcases msN_cases t a (svL t a i) (t 13 1) (by omega) with ⟨h1, h2⟩ | ⟨h, h1, h2, h3⟩
    · rw [nxL_n h1]; exact ⟨o, Or.inr h1⟩
    · rw [nxL_y (by omega) h2]
      refine ⟨SvO_snoc o h1 h3, Or.inl ?_⟩
      rcases l with l | l
      · rw [List.length_append, List.length_singleton, l]
      · rw [h2] at l; exact absurd l (nI_neg h (by omega))
/-- after as many as there are houses none is left -/
theorem sv_none {t : aT} (hb : t 13 1 ≤ 10) (a : Nat) : (msN t a (svL t a (t 13 1)) (t 13 1)).1 = -1 ∧ ∀ h, h < t 13 1 → ¬ elg t a (svL t a (t 13 1)) h := by
  obtain ⟨o, l⟩ := sv_ok hb a (t 13 1)
  rcases msN_cases t a (svL t a (t 13 1)) (t 13 1) (by omega) with h | ⟨h, h1, h2, h3⟩
  · exact h
  · exfalso
    rcases l with l | l
    · have := nd_room o.1 h3.2.2 (fun x hx => (o.2 x hx).1) h1
      omega
    · rw [h2] at l; exact absurd l (nI_neg h (by omega))
theorem others98 {m : mj_m} {t : aT} {u : Nat → Int32} (hG : Good t) (g : Rep (cg m 1 8) t u) {A a : Nat} (hA : A = 78 ∨ A = 49) (ha : a ≤ 99) {T : List Nat} (o : SvO t a T) (hr : Rw m A T) {N : Nat} (hN : 20 ≤ N) : ∃ m', mj_lp N (f_X3_arrangeSaving_98 N (nI a) A) (nI T.length, 0, m) = some (nI (restC t a T (t 13 1)).length, m') ∧ Rw m' A (restC t a T (t 13 1)) ∧ Pd m m' := by
  have gh := GH hG
  have hb : ∀ i, i < 10 → mj_b 0 A (nI i) = true := fun i hi => by
    rcases hA with rfl | rfl
    · exact bb_78 hi
    · exact bb_49 hi
  obtain ⟨z, ⟨-, e2, e3, -, -, e4⟩, e5⟩ := lp_cnt (B := f_X3_arrangeSaving_98 N (nI a) A) (E := fun z => some (z.1, z.2.2)) (c := t 13 1) (N := N) (s0 := (nI T.length, 0, m)) (fun i z => z.2.1 = nI i ∧ z.1 = nI (restC t a T i).length ∧ Rw z.2.2 A (restC t a T i) ∧ (restC t a T i).Nodup ∧ (∀ x, x ∈ restC t a T i → x < t 13 1 ∧ (t 4 x ≤ a ∨ x < i)) ∧ Pd m z.2.2) (by omega)
    ⟨rfl, rfl, hr, o.1, fun x hx => ⟨(o.2 x hx).1, Or.inl (o.2 x hx).2.2⟩, Pd_r m⟩
    (fun i z hi ⟨e1, e2, e3, e4, e5, e6⟩ => by
      have gs := Pd_c hG g e6
      have sl := st_le hG hi
      obtain ⟨c1, c2⟩ := (hG.2.1 i hi).2.2.2.2.1
      by_cases q : t 7 i ≠ 2 ∧ a < t 4 i
      · have q1 := q.1
        have nin : i ∉ restC t a T i := fun y => by have := (e5 i y).2; omega
        have room := nd_room e4 nin (fun x hx => (e5 x hx).1) hi
        refine ⟨(nI ((restC t a T i).length + 1), nI (i + 1), mj_wI z.2.2 A (restC t a T i).length (nI i)), ⟨rfl, ?_, ?_, ?_, ?_, Pd_w e6 (by omega)⟩, fun k => ?_⟩
        · rw [restC_s, if_pos q, List.length_append, List.length_singleton]
        · rw [restC_s, if_pos q]; exact Rw_snoc i e3
        · rw [restC_s, if_pos q]; exact nd_snoc e4 nin
        · rw [restC_s, if_pos q]
          intro x hx
          rcases List.mem_append.mp hx with y | y
          · have := e5 x y; exact ⟨this.1, by omega⟩
          · rw [List.mem_singleton] at y; rw [y]; exact ⟨hi, by omega⟩
        · unfold f_X3_arrangeSaving_98 f_X3_arrangeSaving_150
          rw [x_houses gs, e1, if_neg (nI_ge hi (by omega)), mj_ck_t (bb_5 (by omega)), nI_clamp (show i < 2 ^ 31 by omega), x_steps gs hi, if_neg (show ¬ 2 ≤ nI (t 7 i) from (nI_ge (show t 7 i < 2 by omega) (by omega) : ¬ nI 2 ≤ nI (t 7 i))), mj_ck_t (bb_4 (by omega)), x_cost gs hi, if_neg (nI_ge q.2 (by omega)), e2, mj_ck_t (hb _ (by omega)), nI_clamp (by omega), mw_eq, mw_eq, mw_eq, nI_succ, nI_succ]
      · refine ⟨(z.1, nI (i + 1), z.2.2), ⟨rfl, by rw [restC_s, if_neg q]; exact e2, by rw [restC_s, if_neg q]; exact e3, by rw [restC_s, if_neg q]; exact e4, by rw [restC_s, if_neg q]; exact fun x hx => ⟨(e5 x hx).1, by have := (e5 x hx).2; omega⟩, e6⟩, fun k => ?_⟩
        unfold f_X3_arrangeSaving_98 f_X3_arrangeSaving_150
        rw [x_houses gs, e1, if_neg (nI_ge hi (by omega)), mj_ck_t (bb_5 (by omega)), nI_clamp (by omega), x_steps gs hi]
        by_cases y1 : t 7 i = 2
        · rw [y1, if_pos (by decide), mw_eq, nI_succ]
        · rw [if_neg (show ¬ 2 ≤ nI (t 7 i) from (nI_ge (show t 7 i < 2 by omega) (by omega) : ¬ nI 2 ≤ nI (t 7 i))), mj_ck_t (bb_4 (by omega)), x_cost gs hi, if_pos (nI_le (show t 4 i ≤ a by omega) (by omega)), mw_eq, nI_succ])
    (fun z ⟨e1, _, _, _, _, e6⟩ k => by
      have gs := Pd_c hG g e6
      unfold f_X3_arrangeSaving_98
      rw [x_houses gs, e1, if_pos (nI_le (by omega) (by omega))])
  exact ⟨z.2.2, by rw [e5, e2], e3, e4⟩
/-- the class's order by savings -/
theorem sav8 {m : mj_m} {t : aT} {u : Nat → Int32} (hG : Good t) (g : Rep (cg m 1 8) t u) {A a : Nat} (hA : A = 78 ∨ A = 49) (ha : a ≤ 99) {N : Nat} (hN : 1100 ≤ N) : ∃ m', f_X3_arrangeSaving N (nI a) A m = some (nI (restL t (svL t a (t 13 1)) (t 13 1)).length, m') ∧ Rw m' A (restL t (svL t a (t 13 1)) (t 13 1)) ∧ Pd m m' := by
  have gh := GH hG
  have hb : ∀ i, i < 10 → mj_b 0 A (nI i) = true := fun i hi => by
    rcases hA with rfl | rfl
    · exact bb_78 hi
    · exact bb_49 hi
  obtain ⟨m1, b1, b2, b3⟩ := weighYear8 hG g hN
  have fin : ∀ (m2 : mj_m), Pd m m2 → Rw m2 A (svL t a (t 13 1)) → ∃ m', f_X3_arrangeSaving_95 N (nI a) A (nI (svL t a (t 13 1)).length) m2 = some (nI (restL t (svL t a (t 13 1)) (t 13 1)).length, m') ∧ Rw m' A (restL t (svL t a (t 13 1)) (t 13 1)) ∧ Pd m m' := by
    intro m2 p2 r2
    obtain ⟨o, -⟩ := sv_ok gh a (t 13 1)
    obtain ⟨m', x1, x2, x3⟩ := others98 hG (Pd_c hG g p2) hA ha o r2 (N := N) (by omega)
    rw [restC_eq o (sv_none gh a).2 _ (Nat.le_refl _)] at x1 x2
    exact ⟨m', x1, x2, Pd_t p2 x3⟩
  have H : ∀ (d i M b : Nat) (m2 : mj_m), i + d = t 13 1 → d < M → bitsL b (svL t a i) → Pd m m2 → WY m2 t → (∀ j, j < t 13 1 → m2.1 47 j = nI (stL t (svL t a i) j)) → Rw m2 A (svL t a i) → ∃ m', mj_lp M (f_X3_arrangeSaving_33 N (nI a) A) (nI b, nI (svL t a i).length, nI i, m2) = some (nI (restL t (svL t a (t 13 1)) (t 13 1)).length, m') ∧ Rw m' A (restL t (svL t a (t 13 1)) (t 13 1)) ∧ Pd m m' := by
    intro d
    induction d with
    | zero =>
      intro i M b m2 h1 h2 hbit p2 w2 s2 r2
      obtain ⟨M, rfl⟩ : ∃ k, M = k + 1 := ⟨M - 1, by omega⟩
      have hi : i = t 13 1 := by omega
      subst hi
      obtain ⟨m', x1, x2, x3⟩ := fin m2 p2 r2
      refine ⟨m', ?_, x2, x3⟩
      show f_X3_arrangeSaving_33 N (nI a) A (mj_lp M _) _ = _
      unfold f_X3_arrangeSaving_33
      dsimp only
      rw [x_houses (Pd_c hG g p2), if_pos (nI_le (by omega) (by omega))]
      exact x1
    | succ d ih =>
      intro i M b m2 h1 h2 hbit p2 w2 s2 r2
      obtain ⟨M, rfl⟩ : ∃ k, M = k + 1 := ⟨M - 1, by omega⟩
      obtain ⟨o, l⟩ := sv_ok gh a i
      have ol : (svL t a i).length ≤ t 13 1 := nd_len _ _ o.1 (fun x hx => (o.2 x hx).1)
      have g2 := Pd_c hG g p2
      obtain ⟨m3, x1, x2, x3⟩ := most8 hG g2 w2 ha o s2 hbit hN
      have r3 : Rw m3 A (svL t a i) := fun j hj => by rw [x2.1 A j (by omega) (by omega)]; exact r2 j hj
      rcases msN_cases t a (svL t a i) (t 13 1) (by omega) with ⟨y1, y2⟩ | ⟨h, y1, y2, y3⟩
      · have fx := svL_fix y1 (d + 1)
        rw [h1] at fx
        obtain ⟨m', z1, z2, z3⟩ := fin m3 (Pd_t p2 (Om_P x2)) (by rw [fx]; exact r3)
        refine ⟨m', ?_, z2, z3⟩
        show f_X3_arrangeSaving_33 N (nI a) A (mj_lp M _) _ = _
        unfold f_X3_arrangeSaving_33
        dsimp only
        rw [x_houses g2, if_neg (nI_ge (show i < t 13 1 by omega) (by omega)), x1, bind_some']
        dsimp only
        rw [y1, if_pos rfl, ← fx]
        exact z1
      · have room := nd_room o.1 y3.2.2 (fun x hx => (o.2 x hx).1) y1
        have nx : svL t a (i + 1) = svL t a i ++ [h] := nxL_y (by omega) y2
        have sh : stL t (svL t a i) h = t 7 h := if_neg y3.2.2
        obtain ⟨m', z1, z2, z3⟩ := ih (i + 1) M (b ||| 2 ^ h) (mj_wI (mj_wI m3 A (svL t a i).length (nI h)) 47 h (nI (stL t (svL t a i) h + 1))) (by omega) (by omega) (by rw [nx]; exact bits_s hbit (by omega)) (Pd_w (Pd_w (Pd_t p2 (Om_P x2)) (by omega)) (by omega)) (WY_e (Om_W x2 w2) (fun e k _ _ _ => by rw [wI_n (by omega), wI_n (by omega)]) (fun _ => rfl)) (fun j hj => by
            rw [nx, stL_snoc t y3.2.2]
            unfold inc
            by_cases y : j = h
            · rw [if_pos y, y, wI_e]
            · rw [if_neg y, wI_n (by omega), wI_n (by omega)]; exact x3 j hj) (by
            rw [nx]
            intro j hj
            rw [wI_n (by omega)]
            exact Rw_snoc h r3 j hj)
        refine ⟨m', ?_, z2, z3⟩
        rw [nx, List.length_append, List.length_singleton] at z1
        show f_X3_arrangeSaving_33 N (nI a) A (mj_lp M (f_X3_arrangeSaving_33 N (nI a) A)) _ = _
        generalize mj_lp M (f_X3_arrangeSaving_33 N (nI a) A) = K at z1
        unfold f_X3_arrangeSaving_33
        dsimp only
        rw [x_houses g2, if_neg (nI_ge (show i < t 13 1 by omega) (by omega)), x1, bind_some']
        dsimp only
        rw [y2, if_neg (nI_neg h (by omega)), mj_ck_t (hb _ (by omega)), nI_clamp (show (svL t a i).length < 2 ^ 31 by omega), mw_eq, mw_eq, n_shl h (by omega), n_or, mw_eq, mj_ck_t (bb_47 (by omega)), nI_clamp (show h < 2 ^ 31 by omega), wI_n (by omega), x3 h y1, mw_eq, mw_eq, ← nI_succ, ← nI_succ, ← nI_succ]
        exact z1
  have st0 : ∀ j, j < t 13 1 → (mj_kI m1 5 47 0 0 10).1 47 j = nI (stL t (svL t a 0) j) := fun j hj => by
    rw [kI_e (by omega), x_steps (Od_c hG g b3) hj]; rfl
  obtain ⟨m', z1, z2, z3⟩ := H (t 13 1) 0 N 0 (mj_kI m1 5 47 0 0 10) (by omega) (by omega) bits_0 (Pd_k (Od_P b3) (by omega)) (WY_e b2 (fun e k _ _ _ => kI_n (by omega)) (fun _ => rfl)) st0 (fun j hj => absurd hj (Nat.not_lt_zero j))
  refine ⟨m', ?_, z2, z3⟩
  unfold f_X3_arrangeSaving
  rw [b1, bind_some', mj_ck_t (by decide), mw_eq]
  exact z1
