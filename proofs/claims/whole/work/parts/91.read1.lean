/-! A TOWN FROM LETTERS: what the letters say; the class's numbers and words -/
def isD (c : Int32) : Bool := decide (¬ c < 48 ∧ ¬ 57 < c)
theorem isD_use {c : Int32} (h : isD c = true) : ∃ d, d ≤ 9 ∧ c = nI (48 + d) := by
  obtain ⟨h1, h2⟩ := of_decide_eq_true h
  obtain ⟨n, n1, n2, e⟩ := mid (x := c) (a := 48) (b := 57) h1 h2 (by decide)
  exact ⟨n - 48, by omega, by rw [e]; congr 1; omega⟩
def dgt (c : Int32) : Nat := c.toNatClampNeg - 48
theorem dgt_d {d : Nat} (h : d ≤ 9) : dgt (nI (48 + d)) = d := by unfold dgt; rw [nI_clamp (by omega)]; omega
def rdN (L : Nat → Int32) : Nat → Nat × Nat → Nat × Nat
  | 0, s => s
  | d + 1, s => if isD (L s.2) = true then rdN L d (s.1 * 10 + dgt (L s.2), s.2 + 1) else s
theorem rdN_y {L : Nat → Int32} {d : Nat} {s : Nat × Nat} (h : isD (L s.2) = true) : rdN L (d + 1) s = rdN L d (s.1 * 10 + dgt (L s.2), s.2 + 1) := if_pos h
theorem rdN_n {L : Nat → Int32} {d : Nat} {s : Nat × Nat} (h : ¬ isD (L s.2) = true) : rdN L (d + 1) s = s := if_neg h
theorem dgt_le {c : Int32} (h : isD c = true) : dgt c ≤ 9 := by
  obtain ⟨d, d1, d2⟩ := isD_use h
  rw [d2, dgt_d d1]; exact d1
theorem rd1 {L : Nat → Int32} {s : Nat × Nat} (h : s.1 ≤ 99) : (rdN L 1 s).1 ≤ 999 := by
  by_cases q : isD (L s.2) = true
  · rw [rdN_y q]; have := dgt_le q; show s.1 * 10 + dgt (L s.2) ≤ 999; omega
  · rw [rdN_n q]; omega
theorem rd2 {L : Nat → Int32} {s : Nat × Nat} (h : s.1 ≤ 9) : (rdN L 2 s).1 ≤ 999 := by
  by_cases q : isD (L s.2) = true
  · rw [rdN_y q]; have := dgt_le q; exact rd1 (by show s.1 * 10 + dgt (L s.2) ≤ 99; omega)
  · rw [rdN_n q]; omega
theorem rd3 {L : Nat → Int32} {p : Nat} : (rdN L 3 (0, p)).1 ≤ 999 := by
  by_cases q : isD (L p) = true
  · rw [rdN_y (s := (0, p)) q]; have := dgt_le q; exact rd2 (by show 0 * 10 + dgt (L p) ≤ 9; omega)
  · rw [rdN_n (s := (0, p)) q]; omega
theorem rdN_p (L : Nat → Int32) : ∀ d s, s.2 ≤ (rdN L d s).2 ∧ (rdN L d s).2 ≤ s.2 + d := by
  intro d
  induction d with
  | zero => intro s; exact ⟨Nat.le_refl _, Nat.le_refl _⟩
  | succ d ih =>
    intro s
    by_cases q : isD (L s.2) = true
    · rw [rdN_y q]; have := ih (s.1 * 10 + dgt (L s.2), s.2 + 1); dsimp only at this; omega
    · rw [rdN_n q]; omega
def LL (L : Nat → Int32) (n : Nat) : Prop := n ≤ 120 ∧ ∀ i, n ≤ i → L i = -1
theorem rdN_b {L : Nat → Int32} {n : Nat} (hL : LL L n) : ∀ d s, s.2 ≤ n → (rdN L d s).2 ≤ n := by
  intro d
  induction d with
  | zero => intro s h; exact h
  | succ d ih =>
    intro s h
    by_cases q : isD (L s.2) = true
    · rw [rdN_y q]
      refine ih _ ?_
      rcases Nat.lt_or_ge s.2 n with y | y
      · exact y
      · rw [hL.2 _ y] at q; exact absurd q (by decide)
    · rw [rdN_n q]; exact h
def nbP (L : Nat → Int32) (p lo top : Nat) : Nat ⊕ (Nat × Nat) := if (rdN L 3 (0, p)).2 = p ∨ (rdN L 3 (0, p)).1 < lo ∨ top ≤ (rdN L 3 (0, p)).1 then .inl p else .inr (rdN L 3 (0, p))
def nbB (L : Nat → Int32) (p lo top : Nat) : Nat ⊕ (Nat × Nat) := if L p = 32 then nbP L (p + 1) lo top else .inl p
theorem nbP_ok {L : Nat → Int32} {n p lo top : Nat} (hL : LL L n) (hp : p ≤ n) {v : Nat × Nat} (h : nbP L p lo top = .inr v) : lo ≤ v.1 ∧ v.1 < top ∧ v.1 ≤ 999 ∧ p < v.2 ∧ v.2 ≤ n := by
  unfold nbP at h
  by_cases q : (rdN L 3 (0, p)).2 = p ∨ (rdN L 3 (0, p)).1 < lo ∨ top ≤ (rdN L 3 (0, p)).1
  · rw [if_pos q] at h; cases h
  · rw [if_neg q] at h
    have e := Sum.inr.inj h
    rw [← e]
    have a := rdN_p L 3 (0, p)
    have b := rdN_b hL 3 (0, p) hp
    have c := rd3 (L := L) (p := p)
    dsimp only at a
    refine ⟨?_, ?_, c, ?_, b⟩ <;> omega
theorem nbB_ok {L : Nat → Int32} {n p lo top : Nat} (hL : LL L n) {v : Nat × Nat} (h : nbB L p lo top = .inr v) : lo ≤ v.1 ∧ v.1 < top ∧ v.1 ≤ 999 ∧ p < v.2 ∧ v.2 ≤ n := by
  unfold nbB at h
  by_cases q : L p = 32
  · rw [if_pos q] at h
    have pn : p < n := by
      rcases Nat.lt_or_ge p n with y | y
      · exact y
      · rw [hL.2 _ y] at q; exact absurd q (by decide)
    have := nbP_ok hL pn h
    omega
  · rw [if_neg q] at h; cases h
/-- the class's reader: its letters, its place -/
def C8 (m : mj_m) (L : Nat → Int32) (n p : Nat) : Prop := m.1 55 4 = nI n ∧ m.1 55 5 = nI p ∧ ∀ i, i < n → m.1 73 i = L i
def Rd (m m' : mj_m) : Prop := (∀ a k, ¬ (a = 55 ∧ 5 ≤ k) → m'.1 a k = m.1 a k) ∧ m'.2 = m.2
theorem Rd_r (m : mj_m) : Rd m m := ⟨fun _ _ _ => rfl, rfl⟩
theorem Rd_t {m m' m'' : mj_m} (h : Rd m m') (h' : Rd m' m'') : Rd m m'' := ⟨fun a k q => (h'.1 a k q).trans (h.1 a k q), h'.2.trans h.2⟩
theorem Rd_w {m m' : mj_m} {k : Nat} {v : Int32} (h : Rd m m') (q : 5 ≤ k) : Rd m (mj_wI m' 55 k v) := Rd_t h ⟨fun b j hb => wI_n (by omega), rfl⟩
theorem C8_5 {m : mj_m} {L : Nat → Int32} {n p q : Nat} (c : C8 m L n p) : C8 (mj_wI m 55 5 (nI q)) L n q := ⟨by rw [wI_n (by omega)]; exact c.1, wI_e, fun i hi => by rw [wI_n (by omega)]; exact c.2.2 i hi⟩
theorem C8_w {m : mj_m} {L : Nat → Int32} {n p a k : Nat} {v : Int32} (c : C8 m L n p) (q : ¬ (a = 55 ∧ (k = 4 ∨ k = 5)) ∧ a ≠ 73) : C8 (mj_wI m a k v) L n p := ⟨by rw [wI_n (by omega)]; exact c.1, by rw [wI_n (by omega)]; exact c.2.1, fun i hi => by rw [wI_n (by omega)]; exact c.2.2 i hi⟩
theorem letter8 {m : mj_m} {L : Nat → Int32} {n p : Nat} (hL : LL L n) (c : C8 m L n p) {i : Nat} (hi : i < 1000) (N : Nat) : f_X5_letter N (nI i) m = some (L i) := by
  have hn := hL.1
  unfold f_X5_letter f_X5_letter_21
  rw [if_neg (nI_pos (by omega)), c.1]
  rcases Nat.lt_or_ge i n with y | y
  · rw [if_neg (nI_ge y (by omega)), mj_ck_t (bb_73 (by omega)), nI_clamp (by omega), c.2.2 i y]
  · rw [if_pos (nI_le y (by omega)), hL.2 i y]
theorem digit8 (c : Int32) (N : Nat) (m : mj_m) : f_X5_isDigit N c m = some (if isD c = true then 1 else 0) := by
  unfold f_X5_isDigit f_X5_isDigit_16 isD
  by_cases q1 : c < 48
  · rw [if_pos q1, decide_eq_false (fun z => z.1 q1)]; rfl
  · rw [if_neg q1]
    by_cases q2 : 57 < c
    · rw [if_pos q2, decide_eq_false (fun z => z.2 q2)]; rfl
    · rw [if_neg q2, decide_eq_true ⟨q1, q2⟩]; rfl
theorem dig_I {v : Nat} {c : Int32} (h : isD c = true) : nI v * 10 + c - 48 = nI (v * 10 + dgt c) := by
  obtain ⟨d, d1, d2⟩ := isD_use h
  rw [d2, dgt_d d1, show (10 : Int32) = nI 10 from rfl, nI_mul, nI_plus, show v * 10 + (48 + d) = v * 10 + d + 48 by omega, ← nI_plus (v * 10 + d) 48]
  exact (by intro x y; grind : ∀ x y : Int32, x + y - y = x) _ (nI 48)
theorem numL8 {m : mj_m} {L : Nat → Int32} {n p : Nat} (hL : LL L n) (c : C8 m L n p) (N : Nat) (v1 v2 : Int32) : ∀ d M s, d ≤ 3 → d < M → s.2 ≤ n → mj_lp M (f_X5_readNumber_47 N v1 v2) (nI s.1, nI (3 - d), mj_wI m 55 5 (nI s.2)) = f_X5_readNumber_100 N v1 v2 (nI (rdN L d s).1) (mj_wI m 55 5 (nI (rdN L d s).2)) := by
  have hn := hL.1
  intro d
  induction d with
  | zero =>
    intro M s h1 h2 h3
    obtain ⟨M, rfl⟩ : ∃ k, M = k + 1 := ⟨M - 1, by omega⟩
    show f_X5_readNumber_47 N v1 v2 (mj_lp M _) (nI s.1, nI 3, mj_wI m 55 5 (nI s.2)) = _
    unfold f_X5_readNumber_47
    rw [if_pos (show (3 : Int32) ≤ nI 3 by decide)]; rfl
  | succ d ih =>
    intro M s h1 h2 h3
    obtain ⟨M, rfl⟩ : ∃ k, M = k + 1 := ⟨M - 1, by omega⟩
    show f_X5_readNumber_47 N v1 v2 (mj_lp M (f_X5_readNumber_47 N v1 v2)) (nI s.1, nI (3 - (d + 1)), mj_wI m 55 5 (nI s.2)) = _
    have i1 := ih M (s.1 * 10 + dgt (L s.2), s.2 + 1) (by omega) (by omega)
    generalize mj_lp M (f_X5_readNumber_47 N v1 v2) = K at i1
    have cs := C8_5 (q := s.2) c
    unfold f_X5_readNumber_47
    dsimp only
    rw [if_neg (show ¬ 3 ≤ nI (3 - (d + 1)) from (nI_ge (by omega) (by omega) : ¬ nI 3 ≤ nI (3 - (d + 1)))), wI_e, letter8 hL cs (by omega), bind_some', digit8, bind_some']
    by_cases q : isD (L s.2) = true
    · have sn : s.2 < n := by
        rcases Nat.lt_or_ge s.2 n with y | y
        · exact y
        · rw [hL.2 _ y] at q; exact absurd q (by decide)
      rw [if_pos q, if_neg (by decide), bind_some', mw_eq, mw_eq, mw_eq, wI_wI, dig_I q, ← nI_succ, ← nI_succ, rdN_y q, show 3 - (d + 1) + 1 = 3 - d by omega]
      exact i1 sn
    · rw [if_neg q, if_pos rfl, rdN_n q]
theorem top_le {v top : Nat} (hv : v < 1000) (ht : top < 1001) : nI v ≤ nI top - 1 ↔ v < top := by
  rcases Nat.eq_zero_or_pos top with z | z
  · subst z
    rw [Int32.le_iff_toInt_le, nI_toInt (by omega), show (nI 0 - 1).toInt = -1 by decide]; omega
  · obtain ⟨k, rfl⟩ : ∃ k, top = k + 1 := ⟨top - 1, by omega⟩
    rw [nI_pred]
    constructor
    · intro y
      rcases Nat.lt_or_ge v (k + 1) with w | w
      · exact w
      · exact absurd y (nI_ge (by omega) (by omega))
    · intro y; exact nI_le (by omega) (by omega)
theorem num8 {m : mj_m} {L : Nat → Int32} {n p : Nat} (hL : LL L n) (c : C8 m L n p) (hp : p ≤ n) {lo top : Nat} (hlo : lo < 1000) (ht : top < 1001) {v1 v2 : Int32} (h1 : v1 = nI lo) (h2 : v2 = nI top - 1) {N : Nat} (hN : 20 ≤ N) :
    (∃ q, nbB L p lo top = .inl q ∧ ∃ m', f_X5_readNumber N v1 v2 m = some (-1, m') ∧ m'.1 55 7 = nI q ∧ Rd m m') ∨
    ∃ v, nbB L p lo top = .inr v ∧ ∃ m', f_X5_readNumber N v1 v2 m = some (nI v.1, m') ∧ C8 m' L n v.2 ∧ m'.1 55 6 = nI (p + 1) ∧ m'.1 55 7 = m.1 55 7 ∧ Rd m m' := by
  have hn := hL.1
  unfold nbB
  by_cases q : L p = 32
  · rw [if_pos q]
    have pn : p < n := by
      rcases Nat.lt_or_ge p n with y | y
      · exact y
      · rw [hL.2 _ y] at q; exact absurd q (by decide)
    generalize h4 : mj_wI (mj_wI m 55 5 (nI (p + 1))) 55 6 (nI (p + 1)) = m4
    have c4 : C8 m4 L n (p + 1) := by rw [← h4]; exact C8_w (C8_5 c) (by omega)
    have r4 : Rd m m4 := by rw [← h4]; exact Rd_w (Rd_w (Rd_r m) (by omega)) (by omega)
    have e6 : m4.1 55 6 = nI (p + 1) := by rw [← h4]; exact wI_e
    have e7 : m4.1 55 7 = m.1 55 7 := by rw [← h4, wI_n (by omega), wI_n (by omega)]
    have lp := numL8 hL c4 N v1 v2 3 N (0, p + 1) (by omega) (by omega) (by show p + 1 ≤ n; omega)
    rw [wI_same (show m4.1 55 5 = nI (p + 1) from c4.2.1)] at lp
    have run : f_X5_readNumber N v1 v2 m = f_X5_readNumber_100 N v1 v2 (nI (rdN L 3 (0, p + 1)).1) (mj_wI m4 55 5 (nI (rdN L 3 (0, p + 1)).2)) := by
      unfold f_X5_readNumber
      rw [c.2.1, letter8 hL c (by omega), bind_some', if_pos q, mw_eq, ← nI_succ, wI_e, mw_eq, h4]
      exact lp
    have a := rdN_p L 3 (0, p + 1)
    have b := rd3 (L := L) (p := p + 1)
    dsimp only at a
    rw [run]
    have bad : ∃ m', f_X5_readNumber_121 N (mj_wI m4 55 5 (nI (rdN L 3 (0, p + 1)).2)) = some (-1, m') ∧ m'.1 55 7 = nI (p + 1) ∧ Rd m m' := by
      refine ⟨mj_wI (mj_wI m4 55 5 (nI (rdN L 3 (0, p + 1)).2)) 55 7 (nI (p + 1)), ?_, wI_e, Rd_w (Rd_w r4 (by omega)) (by omega)⟩
      unfold f_X5_readNumber_121 f_X5_fail
      rw [wI_n (by omega), e6]; rfl
    unfold nbP f_X5_readNumber_100
    rw [wI_e, wI_n (show 55 ≠ 55 ∨ 6 ≠ 5 by omega), e6]
    by_cases y1 : (rdN L 3 (0, p + 1)).2 = p + 1
    · rw [if_pos (Or.inl y1), if_pos ((nI_eq (by omega) (by omega)).mpr y1)]
      exact Or.inl ⟨_, rfl, bad⟩
    · rw [if_neg (fun z => y1 ((nI_eq (by omega) (by omega)).mp z)), h1]
      by_cases y2 : (rdN L 3 (0, p + 1)).1 < lo
      · rw [if_pos (Or.inr (Or.inl y2)), if_pos (nI_lt y2 (by omega))]
        exact Or.inl ⟨_, rfl, bad⟩
      · rw [if_neg (nI_nlt (by omega) (by omega)), h2]
        by_cases y3 : top ≤ (rdN L 3 (0, p + 1)).1
        · rw [if_pos (Or.inr (Or.inr y3)), if_neg (fun z => by have := (top_le (by omega) ht).mp z; omega)]
          exact Or.inl ⟨_, rfl, bad⟩
        · rw [if_neg (by omega), if_pos ((top_le (by omega) ht).mpr (by omega))]
          exact Or.inr ⟨_, rfl, _, rfl, C8_5 c4, by rw [wI_n (by omega)]; exact e6, by rw [wI_n (by omega)]; exact e7, Rd_w r4 (by omega)⟩
  · rw [if_neg q]
    refine Or.inl ⟨p, rfl, mj_wI m 55 7 (nI p), ?_, wI_e, Rd_w (Rd_r m) (by omega)⟩
    unfold f_X5_readNumber f_X5_fail
    rw [c.2.1, letter8 hL c (by omega), bind_some', if_neg q]; rfl
/-! words -/
def wl (w : Nat) : Nat := mj_sLen.getD w 0
def wc (w i : Nat) : Int32 := (mj_sByt.getD w []).getD i 0
theorem wl_le : ∀ w, w < 8 → 4 ≤ wl w ∧ wl w ≤ 7 := by decide +kernel
theorem wc_pos : ∀ w, w < 8 → ∀ i, i < wl w → wc w i ≠ -1 := by decide +kernel
def fitN (L : Nat → Int32) (p w : Nat) : Nat → Nat → Nat
  | 0, i => i
  | d + 1, i => if L (p + i) = wc w i then fitN L p w d (i + 1) else i
def fitF (L : Nat → Int32) (p w : Nat) : Nat := fitN L p w (wl w) 0
theorem fitN_le (L : Nat → Int32) (p w : Nat) : ∀ d i, i ≤ fitN L p w d i ∧ fitN L p w d i ≤ i + d := by
  intro d
  induction d with
  | zero => intro i; exact ⟨Nat.le_refl _, Nat.le_refl _⟩
  | succ d ih =>
    intro i
    unfold fitN
    by_cases q : L (p + i) = wc w i
    · rw [if_pos q]; have := ih (i + 1); omega
    · rw [if_neg q]; omega
theorem fitN_at (L : Nat → Int32) (p w : Nat) : ∀ d i j, i ≤ j → j < fitN L p w d i → L (p + j) = wc w j := by
  intro d
  induction d with
  | zero => intro i j h1 h2; exact absurd h2 (by show ¬ j < i; omega)
  | succ d ih =>
    intro i j h1 h2
    unfold fitN at h2
    by_cases q : L (p + i) = wc w i
    · rw [if_pos q] at h2
      by_cases y : j = i
      · rw [y]; exact q
      · exact ih (i + 1) j (by omega) h2
    · rw [if_neg q] at h2; omega
theorem fitN_no (L : Nat → Int32) (p w : Nat) : ∀ d i, fitN L p w d i < i + d → L (p + fitN L p w d i) ≠ wc w (fitN L p w d i) := by
  intro d
  induction d with
  | zero => intro i h; exact absurd h (by show ¬ i < i + 0; omega)
  | succ d ih =>
    intro i h
    unfold fitN at h ⊢
    by_cases q : L (p + i) = wc w i
    · rw [if_pos q] at h ⊢; exact ih (i + 1) (by omega)
    · rw [if_neg q]; exact q
theorem fitF_le (L : Nat → Int32) (p w : Nat) : fitF L p w ≤ wl w := by have := fitN_le L p w (wl w) 0; unfold fitF; omega
theorem fitF_in {L : Nat → Int32} {n p w : Nat} (hL : LL L n) (hw : w < 8) (hp : p ≤ n) : p + fitF L p w ≤ n := by
  by_cases q : fitF L p w = 0
  · rw [q]; exact hp
  · have a := fitN_at L p w (wl w) 0 (fitF L p w - 1) (by omega) (by show _ < fitF L p w; omega)
    have b := fitF_le L p w
    rcases Nat.lt_or_ge (p + (fitF L p w - 1)) n with y | y
    · omega
    · rw [hL.2 _ y] at a; exact absurd a.symm (wc_pos w hw _ (by omega))
theorem sb8 {w : Nat} (hw : w < 8) : mj_sb (9100 + w) = true := by
  unfold mj_sb
  rw [decide_eq_true (by omega), decide_eq_true (by omega)]; rfl
theorem sl8 (w : Nat) : mj_sl_ (9100 + w) = nI (wl w) := by unfold mj_sl_ wl; rw [Nat.add_sub_cancel_left]; rfl
theorem sc8 {w i : Nat} (hw : w < 8) (hi : i < wl w) : mj_sc (9100 + w) (nI i) = true := by
  have := wl_le w hw
  unfold mj_sc
  unfold wl at hi this
  rw [sb8 hw, Nat.add_sub_cancel_left, nI_toInt (by omega), decide_eq_true (by omega), decide_eq_true (by omega)]; rfl
theorem sch8 {w i : Nat} (hi : i < 1000) : mj_sch (9100 + w) (nI i) = wc w i := by unfold mj_sch wc; rw [Nat.add_sub_cancel_left, nI_clamp (by omega)]
theorem fitL8 {m : mj_m} {L : Nat → Int32} {n p w : Nat} (hL : LL L n) (c : C8 m L n p) (hp : p ≤ n) (hw : w < 8) (N : Nat) : ∀ d i M, i + d = wl w → d < M → mj_lp M (f_X5_fitting_2 N (9100 + w) m) (nI i) = some (nI (fitN L p w d i)) := by
  have hn := hL.1
  have w7 := (wl_le w hw).2
  intro d
  induction d with
  | zero =>
    intro i M h1 h2
    obtain ⟨M, rfl⟩ : ∃ k, M = k + 1 := ⟨M - 1, by omega⟩
    show f_X5_fitting_2 N (9100 + w) m (mj_lp M _) (nI i) = _
    unfold f_X5_fitting_2
    rw [mj_ck_t (sb8 hw), sl8, if_pos (nI_le (by omega) (by omega)), show wl w = i by omega]; rfl
  | succ d ih =>
    intro i M h1 h2
    obtain ⟨M, rfl⟩ : ∃ k, M = k + 1 := ⟨M - 1, by omega⟩
    show f_X5_fitting_2 N (9100 + w) m (mj_lp M (f_X5_fitting_2 N (9100 + w) m)) (nI i) = some (nI (if L (p + i) = wc w i then fitN L p w d (i + 1) else i))
    have i1 := ih (i + 1) M (by omega) (by omega)
    generalize mj_lp M (f_X5_fitting_2 N (9100 + w) m) = K at i1
    unfold f_X5_fitting_2
    rw [mj_ck_t (sb8 hw), sl8, if_neg (nI_ge (by omega) (by omega)), c.2.1, nI_plus, letter8 hL c (by omega), bind_some', mj_ck_t (sc8 hw (by omega)), sch8 (by omega)]
    by_cases q : L (p + i) = wc w i
    · rw [if_pos q, if_pos q, mw_eq, ← nI_succ]; exact i1
    · rw [if_neg q, if_neg q]
theorem fit8 {m : mj_m} {L : Nat → Int32} {n p w : Nat} (hL : LL L n) (c : C8 m L n p) (hp : p ≤ n) (hw : w < 8) {N : Nat} (hN : 20 ≤ N) : f_X5_fitting N (9100 + w) m = some (nI (fitF L p w)) := fitL8 hL c hp hw N (wl w) 0 N (by omega) (by have := wl_le w hw; omega)
theorem wordOf8 {w : Nat} (hw : w < 8) (N : Nat) (m : mj_m) : f_X5_wordOf N (nI w) m = some (9100 + w) := by
  rcases (by omega : w = 0 ∨ w = 1 ∨ w = 2 ∨ w = 3 ∨ w = 4 ∨ w = 5 ∨ w = 6 ∨ w = 7) with rfl | rfl | rfl | rfl | rfl | rfl | rfl | rfl <;> rfl
def rwN (L : Nat → Int32) (p : Nat) : Nat → Nat → Nat → Nat ⊕ Nat
  | 0, _, g => .inl (p + g)
  | d + 1, w, g => if fitF L p w = wl w then .inr w else rwN L p d (w + 1) (max g (fitF L p w))
theorem wordL8 {m : mj_m} {L : Nat → Int32} {n p to : Nat} (hL : LL L n) (c : C8 m L n p) (hp : p ≤ n) (hto : to ≤ 7) {N : Nat} (hN : 20 ≤ N) : ∀ d w g M, w + d = to + 1 → d < M → g ≤ 7 →
    (∃ q, rwN L p d w g = .inl q ∧ mj_lp M (f_X5_readWord_5 N (nI to) m) (nI g, nI w) = some (-1, mj_wI m 55 7 (nI q))) ∨
    ∃ x, rwN L p d w g = .inr x ∧ w ≤ x ∧ x ≤ to ∧ fitF L p x = wl x ∧ mj_lp M (f_X5_readWord_5 N (nI to) m) (nI g, nI w) = some (nI x, mj_wI m 55 5 (nI (p + wl x))) := by
  have hn := hL.1
  intro d
  induction d with
  | zero =>
    intro w g M h1 h2 h3
    obtain ⟨M, rfl⟩ : ∃ k, M = k + 1 := ⟨M - 1, by omega⟩
    refine Or.inl ⟨p + g, rfl, ?_⟩
    show f_X5_readWord_5 N (nI to) m (mj_lp M _) (nI g, nI w) = _
    unfold f_X5_readWord_5 f_X5_fail
    dsimp only
    rw [if_pos (nI_lt (by omega) (by omega)), c.2.1, nI_plus]; rfl
  | succ d ih =>
    intro w g M h1 h2 h3
    obtain ⟨M, rfl⟩ : ∃ k, M = k + 1 := ⟨M - 1, by omega⟩
    have w7 := wl_le w (by omega)
    have fl := fitF_le L p w
    show (∃ q, (if fitF L p w = wl w then Sum.inr w else rwN L p d (w + 1) (max g (fitF L p w))) = .inl q ∧ f_X5_readWord_5 N (nI to) m (mj_lp M (f_X5_readWord_5 N (nI to) m)) (nI g, nI w) = _) ∨
      ∃ x, (if fitF L p w = wl w then Sum.inr w else rwN L p d (w + 1) (max g (fitF L p w))) = .inr x ∧ _ ∧ _ ∧ _ ∧ f_X5_readWord_5 N (nI to) m (mj_lp M (f_X5_readWord_5 N (nI to) m)) (nI g, nI w) = _
    have i1 := ih (w + 1) (max g (fitF L p w)) M (by omega) (by omega) (by omega)
    generalize mj_lp M (f_X5_readWord_5 N (nI to) m) = K at i1
    have run : f_X5_readWord_5 N (nI to) m K (nI g, nI w) = if fitF L p w = wl w then some (nI w, mj_wI m 55 5 (nI (p + wl w))) else K (nI (max g (fitF L p w)), nI (w + 1)) := by
      unfold f_X5_readWord_5
      dsimp only
      rw [if_neg (nI_nlt (by omega) (by omega)), wordOf8 (by omega), bind_some', fit8 hL c hp (by omega) hN, bind_some', bind_some', mj_ck_t (sb8 (by omega)), sl8]
      by_cases q : fitF L p w = wl w
      · rw [if_pos q, if_pos (by rw [q]), c.2.1, nI_plus, mw_eq, q]
      · rw [if_neg q, if_neg (fun z => q ((nI_eq (by omega) (by omega)).mp z)), mw_eq, mw_eq, nI_succ]
        have mx : (if nI g < nI (fitF L p w) then nI (fitF L p w) else nI g) = nI (max g (fitF L p w)) := by
          rcases Nat.lt_or_ge g (fitF L p w) with y | y
          · rw [if_pos (nI_lt y (by omega)), Nat.max_eq_right (by omega)]
          · rw [if_neg (nI_nlt y (by omega)), Nat.max_eq_left y]
        rw [mx]
    rw [run]
    by_cases q : fitF L p w = wl w
    · rw [if_pos q, if_pos q]
      exact Or.inr ⟨w, rfl, by omega, by omega, q, rfl⟩
    · rw [if_neg q, if_neg q]
      rcases i1 with ⟨a, b⟩ | ⟨x, x1, x2, x3⟩
      · exact Or.inl ⟨a, b⟩
      · exact Or.inr ⟨x, x1, by omega, x3⟩
