/-! A TOWN FROM LETTERS: the reference's numbers -/
def C9 (m : mj_m) (s : Nat) (L : Nat → Int32) (n p : Nat) : Prop := m.1 95 33 = nI (120 * s) ∧ m.1 95 34 = nI p ∧ m.1 95 35 = nI n ∧ (∀ i, i < n → (m.2 115 (120 * s + i)).toInt32 = L i) ∧ ∀ i, i < 58 → m.1 117 i = wdl.getD i 0
def Re (m m' : mj_m) : Prop := (∀ a k, ¬ (a = 95 ∧ 34 ≤ k ∧ k ≤ 37 ∧ k ≠ 35) → m'.1 a k = m.1 a k) ∧ m'.2 = m.2
theorem Re_r (m : mj_m) : Re m m := ⟨fun _ _ _ => rfl, rfl⟩
theorem Re_t {m m' m'' : mj_m} (h : Re m m') (h' : Re m' m'') : Re m m'' := ⟨fun a k q => (h'.1 a k q).trans (h.1 a k q), h'.2.trans h.2⟩
theorem Re_w {m m' : mj_m} {k : Nat} {v : Int32} (h : Re m m') (q : k = 34 ∨ k = 36 ∨ k = 37) : Re m (mj_wI m' 95 k v) := Re_t h ⟨fun b j hb => wI_n (by omega), rfl⟩
theorem C9_R {m m' : mj_m} {s : Nat} {L : Nat → Int32} {n p q : Nat} (c : C9 m s L n p) (r : Re m m') (h : m'.1 95 34 = nI q) : C9 m' s L n q :=
  ⟨by rw [r.1 95 33 (by omega)]; exact c.1, h, by rw [r.1 95 35 (by omega)]; exact c.2.2.1, fun i hi => by rw [r.2]; exact c.2.2.2.1 i hi, fun i hi => by rw [r.1 117 i (by omega)]; exact c.2.2.2.2 i hi⟩
theorem cell9 {m : mj_m} {s : Nat} {L : Nat → Int32} {n p : Nat} (hL : LL L n) (hs : s < 8) (c : C9 m s L n p) {q : Nat} (hq : q < n) : mj_b 1 115 (nI (120 * s) + nI q) = true ∧ (m.2 115 (nI (120 * s) + nI q).toNatClampNeg).toInt32 = L q := by
  have hn := hL.1
  rw [nI_plus, nI_clamp (by omega)]
  exact ⟨bb_115 (by omega), c.2.2.2.1 q hq⟩
theorem digit9 {m : mj_m} {s : Nat} {L : Nat → Int32} {n p : Nat} (hL : LL L n) (hs : s < 8) (c : C9 m s L n p) (hp : p ≤ n) (N : Nat) : f_X9_isDigit N m = some (if isD (L p) = true then 1 else 0) := by
  have hn := hL.1
  unfold f_X9_isDigit f_X9_isDigit_55
  rw [c.2.2.1, c.2.1, c.1]
  rcases Nat.lt_or_ge p n with y | y
  · obtain ⟨c1, c2⟩ := cell9 hL hs c y
    rw [if_neg (nI_ge y (by omega)), mj_ck_t c1, c2]
    unfold isD
    by_cases q1 : L p < 48
    · rw [if_pos q1, decide_eq_false (fun z => z.1 q1)]; rfl
    · rw [if_neg q1]
      by_cases q2 : 57 < L p
      · rw [if_pos q2, decide_eq_false (fun z => z.2 q2)]; rfl
      · rw [if_neg q2, decide_eq_true ⟨q1, q2⟩]; rfl
  · rw [if_pos (nI_le y (by omega)), hL.2 p y]; rfl
theorem two_wI (m : mj_m) (a b a' b' : Int32) : mj_wI (mj_wI (mj_wI (mj_wI m 95 36 a) 95 34 b) 95 36 a') 95 34 b' = mj_wI (mj_wI m 95 36 a') 95 34 b' := by
  refine Prod.ext ?_ rfl
  funext A K
  rw [wI_1, up_at, wI_1, up_at, wI_1, up_at, wI_1, up_at, wI_1, up_at, wI_1, up_at]
  by_cases q : A = 95 ∧ K = 34
  · rw [if_pos q, if_pos q]
  · by_cases y : A = 95 ∧ K = 36
    · repeat rw [if_neg q]
      repeat rw [if_pos y]
    · repeat rw [if_neg q]
      repeat rw [if_neg y]
      repeat rw [if_neg q]
      repeat rw [if_neg y]
theorem numL9 {m : mj_m} {s : Nat} {L : Nat → Int32} {n p : Nat} (hL : LL L n) (hs : s < 8) (c : C9 m s L n p) (N : Nat) (v1 v2 v3 v4 : Int32) : ∀ d M x, d ≤ 3 → d < M → x.2 ≤ n → mj_lp M (f_X9_number_30 N v1 v2 v3 v4) (nI (3 - d), mj_wI (mj_wI m 95 36 (nI x.1)) 95 34 (nI x.2)) = f_X9_number_89 N v1 v2 v3 v4 (mj_wI (mj_wI m 95 36 (nI (rdN L d x).1)) 95 34 (nI (rdN L d x).2)) := by
  have hn := hL.1
  intro d
  induction d with
  | zero =>
    intro M x h1 h2 h3
    obtain ⟨M, rfl⟩ : ∃ k, M = k + 1 := ⟨M - 1, by omega⟩
    show f_X9_number_30 N v1 v2 v3 v4 (mj_lp M _) (nI 3, mj_wI (mj_wI m 95 36 (nI x.1)) 95 34 (nI x.2)) = _
    unfold f_X9_number_30
    rw [if_pos (show (3 : Int32) ≤ nI 3 by decide)]; rfl
  | succ d ih =>
    intro M x h1 h2 h3
    obtain ⟨M, rfl⟩ : ∃ k, M = k + 1 := ⟨M - 1, by omega⟩
    show f_X9_number_30 N v1 v2 v3 v4 (mj_lp M (f_X9_number_30 N v1 v2 v3 v4)) (nI (3 - (d + 1)), mj_wI (mj_wI m 95 36 (nI x.1)) 95 34 (nI x.2)) = _
    have i1 := ih M (x.1 * 10 + dgt (L x.2), x.2 + 1) (by omega) (by omega)
    generalize mj_lp M (f_X9_number_30 N v1 v2 v3 v4) = K at i1
    have cx : C9 (mj_wI (mj_wI m 95 36 (nI x.1)) 95 34 (nI x.2)) s L n x.2 := C9_R c (Re_w (Re_w (Re_r m) (by omega)) (by omega)) wI_e
    unfold f_X9_number_30
    dsimp only
    rw [if_neg (show ¬ 3 ≤ nI (3 - (d + 1)) from (nI_ge (by omega) (by omega) : ¬ nI 3 ≤ nI (3 - (d + 1)))), digit9 hL hs cx h3, bind_some']
    by_cases q : isD (L x.2) = true
    · have sn : x.2 < n := by
        rcases Nat.lt_or_ge x.2 n with y | y
        · exact y
        · rw [hL.2 _ y] at q; exact absurd q (by decide)
      obtain ⟨c1, c2⟩ := cell9 hL hs cx sn
      rw [if_pos q, if_neg (by decide), cx.1, cx.2.1, mj_ck_t c1, c2, wI_n (show 95 ≠ 95 ∨ 36 ≠ 34 by omega), wI_e, Int32.mul_comm, dig_I q, mw_eq, wI_n (show 95 ≠ 95 ∨ 34 ≠ 36 by omega), wI_e, ← nI_succ, mw_eq, two_wI, mw_eq, ← nI_succ, rdN_y q, show 3 - (d + 1) + 1 = 3 - d by omega]
      exact i1 sn
    · rw [if_neg q, if_pos rfl, rdN_n q]
/-- what a number comes to in the reference -/
def NM9 (m : mj_m) (s : Nat) (L : Nat → Int32) (n pd : Nat) (but : Int32) (x : Nat ⊕ (Nat × Nat)) (o : Option (Int32 × mj_m)) : Prop :=
  (∃ q, x = .inl q ∧ ∃ m', o = some (0, m') ∧ m'.1 95 37 = nI q ∧ Re m m') ∨ ∃ v, x = .inr v ∧ ((nI v.1 = but ∧ ∃ m', o = some (0, m') ∧ m'.1 95 37 = nI pd ∧ Re m m') ∨ (nI v.1 ≠ but ∧ ∃ m', o = some (1, m') ∧ m'.1 95 36 = nI v.1 ∧ C9 m' s L n v.2 ∧ Re m m'))
theorem num9 {m : mj_m} {s : Nat} {L : Nat → Int32} {n p : Nat} (hL : LL L n) (hs : s < 8) (c : C9 m s L n p) (hp : p ≤ n) {lo top : Nat} (hlo : lo < 1000) (ht : top < 1001) {v1 v2 : Int32} (h1 : v1 = nI lo) (h2 : v2 = nI top - 1) (but : Int32) {N : Nat} (hN : 20 ≤ N) : NM9 m s L n p but (nbP L p lo top) (f_X9_number N v1 v2 but m) := by
  have hn := hL.1
  have c0 : C9 (mj_wI m 95 36 0) s L n p := C9_R c (Re_w (Re_r m) (by omega)) (by rw [wI_n (by omega)]; exact c.2.1)
  unfold f_X9_number
  rw [c.2.1, mw_eq, mw_eq, digit9 hL hs c0 hp, bind_some']
  unfold nbP
  by_cases q : isD (L p) = true
  · rw [if_pos q, if_neg (show ¬ (1 : Int32) = 0 by decide)]
    have lp := numL9 hL hs c N v1 v2 but (nI p) 3 N (0, p) (by omega) (by omega) hp
    rw [wI_same (m := mj_wI m 95 36 (nI 0)) (show (mj_wI m 95 36 (nI 0)).1 95 34 = nI p by rw [wI_n (by omega)]; exact c.2.1)] at lp
    rw [show mj_lp N (f_X9_number_30 N v1 v2 but (nI p)) (0, mj_wI m 95 36 0) = _ from lp]
    have a : p + 1 ≤ (rdN L 3 (0, p)).2 := by
      rw [rdN_y (s := (0, p)) q]
      exact (rdN_p L 2 (0 * 10 + dgt (L p), p + 1)).1
    have b := rd3 (L := L) (p := p)
    generalize rdN L 3 (0, p) = r at a b
    have bad : ∃ m', f_X9_number_113 N (nI p) (mj_wI (mj_wI m 95 36 (nI r.1)) 95 34 (nI r.2)) = some (0, m') ∧ m'.1 95 37 = nI p ∧ Re m m' := by
      refine ⟨mj_wI (mj_wI (mj_wI m 95 36 (nI r.1)) 95 34 (nI r.2)) 95 37 (nI p), rfl, wI_e, Re_w (Re_w (Re_w (Re_r m) (by omega)) (by omega)) (by omega)⟩
    unfold f_X9_number_89 f_X9_number_122
    rw [wI_n (show 95 ≠ 95 ∨ 36 ≠ 34 by omega), wI_e, h1]
    by_cases y2 : r.1 < lo
    · rw [if_pos (Or.inr (Or.inl y2)), if_pos (nI_lt y2 (by omega))]
      exact Or.inl ⟨_, rfl, bad⟩
    · rw [if_neg (nI_nlt (by omega) (by omega)), h2]
      by_cases y3 : top ≤ r.1
      · rw [if_pos (Or.inr (Or.inr y3)), if_pos (Int32.not_le.mp (fun z => by have := (top_le (by omega) ht).mp z; omega))]
        exact Or.inl ⟨_, rfl, bad⟩
      · rw [if_neg (by omega), if_neg (Int32.not_lt.mpr ((top_le (by omega) ht).mpr (by omega)))]
        refine Or.inr ⟨_, rfl, ?_⟩
        by_cases y4 : nI r.1 = but
        · rw [if_pos y4]; exact Or.inl ⟨y4, bad⟩
        · rw [if_neg y4]
          have rr : Re m (mj_wI (mj_wI m 95 36 (nI r.1)) 95 34 (nI r.2)) := Re_w (Re_w (Re_r m) (by omega)) (by omega)
          exact Or.inr ⟨y4, _, rfl, by rw [wI_n (by omega), wI_e], C9_R c rr wI_e, rr⟩
  · rw [if_neg q, if_pos rfl, if_pos (Or.inl (by rw [rdN_n (s := (0, p)) q])), wI_n (by omega), c.2.1]
    refine Or.inl ⟨p, rfl, mj_wI (mj_wI m 95 36 0) 95 37 (nI p), ?_, wI_e, Re_w (Re_w (Re_r m) (by omega)) (by omega)⟩
    unfold f_X9_wrong
    rw [mw_eq, bind_some', mj_ck_t (show ((0 : Int32) &&& 1 == 0) = true by decide)]
theorem NM9_b {m : mj_m} {s : Nat} {L : Nat → Int32} {n pd : Nat} {but : Int32} {x : Nat ⊕ (Nat × Nat)} {o : Option (Int32 × mj_m)} (h : NM9 m s L n pd but x o) : NM9 m s L n pd but x (o.bind (fun r5 => mj_ck (r5.1 &&& 1 == r5.1) ( some (r5.1, r5.2)))) := by
  rcases h with ⟨q, a1, m', a2, a3⟩ | ⟨v, a1, ⟨a0, m', a2, a3⟩ | ⟨a0, m', a2, a3⟩⟩
  · exact Or.inl ⟨q, a1, m', by rw [a2, bind_some', mj_ck_t (show ((0 : Int32) &&& 1 == 0) = true by decide)], a3⟩
  · exact Or.inr ⟨v, a1, Or.inl ⟨a0, m', by rw [a2, bind_some', mj_ck_t (show ((0 : Int32) &&& 1 == 0) = true by decide)], a3⟩⟩
  · exact Or.inr ⟨v, a1, Or.inr ⟨a0, m', by rw [a2, bind_some', mj_ck_t (show ((1 : Int32) &&& 1 == 1) = true by decide)], a3⟩⟩
theorem NM9_R {m m1 : mj_m} {s : Nat} {L : Nat → Int32} {n pd : Nat} {but : Int32} {x : Nat ⊕ (Nat × Nat)} {o : Option (Int32 × mj_m)} (h : NM9 m1 s L n pd but x o) (r : Re m m1) : NM9 m s L n pd but x o := by
  rcases h with ⟨q, a1, m', a2, a3, a4⟩ | ⟨v, a1, ⟨a0, m', a2, a3, a4⟩ | ⟨a0, m', a2, a3, a4, a5⟩⟩
  · exact Or.inl ⟨q, a1, m', a2, a3, Re_t r a4⟩
  · exact Or.inr ⟨v, a1, Or.inl ⟨a0, m', a2, a3, Re_t r a4⟩⟩
  · exact Or.inr ⟨v, a1, Or.inr ⟨a0, m', a2, a3, a4, Re_t r a5⟩⟩
theorem more9 {m : mj_m} {s : Nat} {L : Nat → Int32} {n p : Nat} (hL : LL L n) (hs : s < 8) (c : C9 m s L n p) (hp : p ≤ n) {lo top : Nat} (hlo : lo < 1000) (ht : top < 1001) {v1 v2 : Int32} (h1 : v1 = nI lo) (h2 : v2 = nI top - 1) (but : Int32) {N : Nat} (hN : 20 ≤ N) : NM9 m s L n (p + 1) but (nbB L p lo top) (f_X9_more N v1 v2 but m) := by
  have hn := hL.1
  have bad : ∀ x : Nat ⊕ (Nat × Nat), x = .inl p → NM9 m s L n (p + 1) but x (f_X9_more_31 N m) := fun x hx => by
    unfold f_X9_more_31 f_X9_wrong
    rw [c.2.1, mw_eq, bind_some', mj_ck_t (show ((0 : Int32) &&& 1 == 0) = true by decide)]
    exact Or.inl ⟨p, hx, _, rfl, wI_e, Re_w (Re_r m) (by omega)⟩
  unfold f_X9_more nbB
  rw [c.2.2.1, c.2.1, c.1]
  rcases Nat.lt_or_ge p n with y | y
  · obtain ⟨c1, c2⟩ := cell9 hL hs c y
    rw [if_neg (nI_ge y (by omega)), mj_ck_t c1, c2]
    by_cases q : L p = 32
    · rw [if_pos q, if_pos q, mw_eq, ← nI_succ]
      have r1 : Re m (mj_wI m 95 34 (nI (p + 1))) := Re_w (Re_r m) (by omega)
      exact NM9_R (NM9_b (num9 hL hs (C9_R c r1 wI_e) y hlo ht h1 h2 but hN)) r1
    · rw [if_neg q, if_neg q]; exact bad _ rfl
  · rw [if_pos (nI_le y (by omega)), if_neg (show ¬ L p = 32 by rw [hL.2 p y]; decide)]; exact bad _ rfl
/-! the reference's words -/
def fitG (L : Nat → Int32) (p : Nat) (c : Nat → Int32) : Nat → Nat → Nat
  | 0, i => i
  | d + 1, i => if L (p + i) = c i then fitG L p c d (i + 1) else i
theorem fitG_le (L : Nat → Int32) (p : Nat) (c : Nat → Int32) : ∀ d i, i ≤ fitG L p c d i ∧ fitG L p c d i ≤ i + d := by
  intro d
  induction d with
  | zero => intro i; exact ⟨Nat.le_refl _, Nat.le_refl _⟩
  | succ d ih =>
    intro i
    unfold fitG
    by_cases q : L (p + i) = c i
    · rw [if_pos q]; have := ih (i + 1); omega
    · rw [if_neg q]; omega
theorem fitG_at (L : Nat → Int32) (p : Nat) (c : Nat → Int32) : ∀ d i j, i ≤ j → j < fitG L p c d i → L (p + j) = c j := by
  intro d
  induction d with
  | zero => intro i j h1 h2; exact absurd h2 (by show ¬ j < i; omega)
  | succ d ih =>
    intro i j h1 h2
    unfold fitG at h2
    by_cases q : L (p + i) = c i
    · rw [if_pos q] at h2
      by_cases y : j = i
      · rw [y]; exact q
      · exact ih (i + 1) j (by omega) h2
    · rw [if_neg q] at h2; omega
theorem fitG_no (L : Nat → Int32) (p : Nat) (c : Nat → Int32) : ∀ d i, fitG L p c d i < i + d → L (p + fitG L p c d i) ≠ c (fitG L p c d i) := by
  intro d
  induction d with
  | zero => intro i h; exact absurd h (by show ¬ i < i + 0; omega)
  | succ d ih =>
    intro i h
    unfold fitG at h ⊢
    by_cases q : L (p + i) = c i
    · rw [if_pos q] at h ⊢; exact ih (i + 1) (by omega)
    · rw [if_neg q]; exact q
theorem fitG_eq {L : Nat → Int32} {p len r : Nat} {c : Nat → Int32} (h1 : ∀ j, j < r → L (p + j) = c j) (h2 : r = len ∨ L (p + r) ≠ c r) (h3 : r ≤ len) : fitG L p c len 0 = r := by
  have a := fitG_le L p c len 0
  have b := fitG_at L p c len 0
  have d := fitG_no L p c len 0
  rcases Nat.lt_trichotomy (fitG L p c len 0) r with y | y | y
  · exact absurd (h1 _ y) (d (by omega))
  · exact y
  · rcases h2 with h2 | h2
    · omega
    · exact absurd (b r (by omega) y) h2
/-- where a word starts, how long it is with its blanks, whether one stands before it -/
def wo (w : Nat) : Nat := [0, 8, 15, 22, 28, 34, 43, 51, 58].getD w 0
def wb (w : Nat) : Nat := if w < 6 then 0 else 1
def wx (w i : Nat) : Int32 := wdl.getD (wo w + i) 0
theorem wx_c : ∀ w, w < 8 → ∀ i, i < wl w → wx w (wb w + i) = wc w i := by decide +kernel
theorem wx_b : ∀ w, w < 8 → wx w (wb w + wl w) = 32 ∧ wx w (wb w + wl w + 1) = 0 ∧ wo (w + 1) = wo w + (wb w + wl w + 1) + 1 ∧ wo w + (wb w + wl w + 1) < 58 := by decide +kernel
theorem wx_0 : ∀ w, w < 8 → (wb w = 0 ∨ wx w 0 = 32) := by decide +kernel
theorem wx_nz : ∀ w, w < 8 → ∀ i, i < wb w + wl w + 1 → wx w i ≠ 0 ∧ wx w i ≠ -1 := by decide +kernel
theorem wx_gt : ∀ w, w < 6 → ∀ i, i < wl w → ¬ wx w i ≤ 32 := by decide +kernel
def fitX (L : Nat → Int32) (p w : Nat) : Nat := fitG L p (wx w) (wb w + wl w + 1) 0
theorem fitX_no {L : Nat → Int32} {p w : Nat} (hw : w < 8) (hb : wb w = 0 ∨ L p = 32) (h : fitF L (p + wb w) w ≠ wl w) : fitX L p w = wb w + fitF L (p + wb w) w := by
  have a := fitF_le L (p + wb w) w
  have b1 := wx_0 w hw
  have wbl : wb w ≤ 1 := by unfold wb; by_cases q : w < 6; rw [if_pos q]; omega; rw [if_neg q]; omega
  refine fitG_eq (fun j hj => ?_) (Or.inr ?_) (by omega)
  · rcases Nat.lt_or_ge j (wb w) with y | y
    · have j0 : j = 0 := by omega
      subst j0
      rcases hb with hb | hb
      · omega
      · rcases b1 with b1 | b1
        · omega
        · rw [b1]; exact hb
    · have e := wx_c w hw (j - wb w) (by omega)
      rw [show wb w + (j - wb w) = j by omega] at e
      rw [e, ← fitN_at L (p + wb w) w (wl w) 0 (j - wb w) (by omega) (by show _ < fitF L (p + wb w) w; omega)]
      congr 1; omega
  · have e := fitN_no L (p + wb w) w (wl w) 0 (by show fitF L (p + wb w) w < _; omega)
    rw [wx_c w hw _ (by omega), show p + (wb w + fitF L (p + wb w) w) = p + wb w + fitF L (p + wb w) w by omega]
    exact e
theorem fitX_full {L : Nat → Int32} {p w : Nat} (hw : w < 8) (hb : wb w = 0 ∨ L p = 32) (h : fitF L (p + wb w) w = wl w) : fitX L p w = if L (p + wb w + wl w) = 32 then wb w + wl w + 1 else wb w + wl w := by
  have b1 := wx_0 w hw
  have wbl : wb w ≤ 1 := by unfold wb; by_cases q : w < 6; rw [if_pos q]; omega; rw [if_neg q]; omega
  have m1 : ∀ j, j < wb w + wl w → L (p + j) = wx w j := fun j hj => by
    rcases Nat.lt_or_ge j (wb w) with y | y
    · have j0 : j = 0 := by omega
      subst j0
      rcases hb with hb | hb
      · omega
      · rcases b1 with b1 | b1
        · omega
        · rw [b1]; exact hb
    · have e := wx_c w hw (j - wb w) (by omega)
      rw [show wb w + (j - wb w) = j by omega] at e
      rw [e, ← fitN_at L (p + wb w) w (wl w) 0 (j - wb w) (by omega) (by show _ < fitF L (p + wb w) w; omega)]
      congr 1; omega
  by_cases q : L (p + wb w + wl w) = 32
  · rw [if_pos q]
    refine fitG_eq (fun j hj => ?_) (Or.inl rfl) (Nat.le_refl _)
    by_cases y : j = wb w + wl w
    · rw [y, (wx_b w hw).1, ← Nat.add_assoc]; exact q
    · exact m1 j (by omega)
  · rw [if_neg q]
    refine fitG_eq m1 (Or.inr ?_) (by omega)
    rw [(wx_b w hw).1, ← Nat.add_assoc]; exact q
