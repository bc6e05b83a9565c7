/-! A TOWN FROM LETTERS: the reference reads an item -/
def zc : Nat → Nat
  | 0 => 0
  | j + 1 => if wdl.getD j 0 = 0 then zc j + 1 else zc j
theorem zc_wo : ∀ f, f < 8 → zc (wo f) = f ∧ wo f < 58 ∧ ∀ j, j < wo f → zc j < f := by decide +kernel
theorem wat9 {m : mj_m} {s : Nat} {L : Nat → Int32} {n p : Nat} (hL : LL L n) (hs : s < 8) (c : C9 m s L n p) (hp : p ≤ n) {f : Nat} (hf : f < 6) (N : Nat) : ∀ d i M, i + d = wl f → d < M → mj_lp M (f_X9_isWordAt_37 N m) (nI (wo f + i), nI (p + i)) = some (if fitN L p f d i = wl f then 1 else 0) := by
  have hn := hL.1
  have w7 := wl_le f (by omega)
  have wb0 : wb f = 0 := by unfold wb; rw [if_pos hf]
  obtain ⟨b1, b2, b3, b4⟩ := wx_b f (by omega)
  intro d
  induction d with
  | zero =>
    intro i M h1 h2
    obtain ⟨M, rfl⟩ : ∃ k, M = k + 1 := ⟨M - 1, by omega⟩
    obtain ⟨c1, c2⟩ := wd9 c (w := f) (i := i) (by omega)
    have e : wx f i = 32 := by rw [show i = wb f + wl f by omega]; exact b1
    show f_X9_isWordAt_37 N m (mj_lp M _) (nI (wo f + i), nI (p + i)) = some (if i = wl f then 1 else 0)
    unfold f_X9_isWordAt_37 f_X9_isWordAt_86
    dsimp only
    rw [mj_ck_t c1, c2, e, if_pos (by decide), mj_ck_t c1, if_neg (by decide), if_pos (by omega)]
  | succ d ih =>
    intro i M h1 h2
    obtain ⟨M, rfl⟩ : ∃ k, M = k + 1 := ⟨M - 1, by omega⟩
    obtain ⟨c1, c2⟩ := wd9 c (w := f) (i := i) (by omega)
    show f_X9_isWordAt_37 N m (mj_lp M (f_X9_isWordAt_37 N m)) (nI (wo f + i), nI (p + i)) = some (if (if L (p + i) = wc f i then fitN L p f d (i + 1) else i) = wl f then 1 else 0)
    have i1 := ih (i + 1) M (by omega) (by omega)
    generalize mj_lp M (f_X9_isWordAt_37 N m) = K at i1
    have gt := wx_gt f hf i (by omega)
    have wc1 := wx_c f (by omega) i (by omega)
    rw [wb0, Nat.zero_add] at wc1
    have pos := wc_pos f (by omega) i (by omega)
    have no : f_X9_isWordAt_86 N (nI (wo f + i)) m = some 0 := by
      unfold f_X9_isWordAt_86
      rw [mj_ck_t c1, c2, if_pos (Int32.not_le.mp gt)]
    unfold f_X9_isWordAt_37
    dsimp only
    rw [mj_ck_t c1, c2, if_neg gt, c.2.2.1]
    rcases Nat.lt_or_ge (p + i) n with y | y
    · obtain ⟨e1, e2⟩ := cell9 hL hs c y
      rw [if_neg (nI_ge y (by omega)), c.1, mj_ck_t e1, e2, wc1]
      by_cases q : L (p + i) = wc f i
      · rw [if_pos q, if_pos q, mw_eq, mw_eq, ← nI_succ, ← nI_succ]; exact i1
      · rw [if_neg q, if_neg q, no, if_neg (by omega)]
    · rw [if_pos (nI_le y (by omega)), no, if_neg (show ¬ L (p + i) = wc f i by rw [hL.2 _ y]; exact fun z => pos z.symm), if_neg (by omega)]
theorem isWord9 {m : mj_m} {s : Nat} {L : Nat → Int32} {n p : Nat} (hL : LL L n) (hs : s < 8) (c : C9 m s L n p) (hp : p ≤ n) {f : Nat} (hf : f < 8) {N : Nat} (hN : 100 ≤ N) : (f < 6 → f_X9_isWordAt N (nI f) m = some (if fitF L p f = wl f then 1 else 0)) ∧ ∃ x, f_X9_isWordAt N (nI f) m = some x := by
  obtain ⟨z1, z2, z3⟩ := zc_wo f hf
  have main : f_X9_isWordAt N (nI f) m = mj_lp N (f_X9_isWordAt_37 N m) (nI (wo f), nI p) := by
    unfold f_X9_isWordAt
    refine lp_for (fun j => (nI j, nI (zc j))) (c := wo f) (by omega) (fun j hj κ => ?_) (fun κ => ?_)
    · have zj := z3 j hj
      unfold f_X9_isWordAt_4 f_X9_isWordAt_24
      dsimp only
      rw [if_neg (nI_ge zj (by omega)), mj_ck_t (bb_117 (by omega)), nI_clamp (by omega), c.2.2.2.2 j (by omega)]
      show _ = κ (nI (j + 1), nI (if wdl.getD j 0 = 0 then zc j + 1 else zc j))
      by_cases q : wdl.getD j 0 = 0
      · rw [if_pos q, if_pos q, mw_eq, mw_eq, nI_succ, nI_succ]
      · rw [if_neg q, if_neg q, mw_eq, mw_eq, nI_succ, Int32.add_zero]
    · unfold f_X9_isWordAt_4
      dsimp only
      rw [z1, if_pos (nI_le (Nat.le_refl _) (by omega)), c.2.1, mw_eq]
  refine ⟨fun h6 => ?_, ?_⟩
  · have w7 := wl_le f hf
    rw [main]
    exact wat9 hL hs c hp h6 N (wl f) 0 N (by omega) (by omega)
  · rcases Nat.lt_or_ge f 6 with y | y
    · have w7 := wl_le f hf
      rw [main]
      exact ⟨_, wat9 hL hs c hp y N (wl f) 0 N (by omega) (by omega)⟩
    · rw [main]
      obtain ⟨N, rfl⟩ : ∃ k, N = k + 1 := ⟨N - 1, by omega⟩
      obtain ⟨b1, b2, b3, b4⟩ := wx_b f hf
      obtain ⟨c1, c2⟩ := wd9 c (w := f) (i := 0) (by omega)
      have e : wx f 0 = 32 := by
        rcases wx_0 f hf with h | h
        · exfalso; unfold wb at h; rw [if_neg (by omega)] at h; omega
        · exact h
      rw [Nat.add_zero, e] at c2
      rw [Nat.add_zero] at c1
      refine ⟨1, ?_⟩
      show f_X9_isWordAt_37 (N + 1) m (mj_lp N _) (nI (wo f), nI p) = _
      unfold f_X9_isWordAt_37 f_X9_isWordAt_86
      dsimp only
      rw [mj_ck_t c1, c2, if_pos (by decide), mj_ck_t c1, if_neg (by decide)]
theorem isFull9 {m : mj_m} {t : aT} {u : Nat → Int32} (hG : Good t) (g : Rep (mg m) t u) {f : Nat} (hf : f < 8) (N : Nat) : f_X9_isFull N (nI f) m = some (if fullB t f = true then 1 else 0) := by
  have gs := GS hG
  have gh := GH hG
  have gk := GK hG
  unfold f_X9_isFull f_X9_isFull_13 f_X9_isFull_27 f_X9_isFull_44 f_X9_isFull_40
  rw [y_streets g, y_houses g, y_shakes g]
  have E : ∀ a k : Nat, a ≤ k → k < 1000 → (nI a = nI k ↔ a = k) := fun a k h1 h2 => nI_eq (by omega) (by omega)
  rcases (by omega : f = 0 ∨ f = 1 ∨ f = 2 ∨ f = 3 ∨ f = 4 ∨ f = 5 ∨ f = 6 ∨ f = 7) with rfl | rfl | rfl | rfl | rfl | rfl | rfl | rfl
  · rw [if_pos (show nI 0 = 0 from rfl)]
    by_cases q : t 13 0 = 12
    · rw [if_pos (show nI (t 13 0) = 12 by rw [q]; rfl), if_pos (show fullB t 0 = true from decide_eq_true (Or.inl ⟨rfl, q⟩))]
    · rw [if_neg (show ¬ nI (t 13 0) = 12 from fun z => q ((E _ 12 gs (by decide)).mp z)), if_neg (show ¬ nI 0 = 1 by decide), if_neg (show ¬ nI 0 = 2 by decide), if_neg (show ¬ fullB t 0 = true from fun z => by have := of_decide_eq_true z; omega)]
  · rw [if_neg (show ¬ nI 1 = 0 by decide), if_pos (show nI 1 = 1 from rfl)]
    by_cases q : t 13 1 = 10
    · rw [if_pos (show nI (t 13 1) = 10 by rw [q]; rfl), if_pos (show fullB t 1 = true from decide_eq_true (Or.inr (Or.inl ⟨rfl, q⟩)))]
    · rw [if_neg (show ¬ nI (t 13 1) = 10 from fun z => q ((E _ 10 gh (by decide)).mp z)), if_neg (show ¬ nI 1 = 2 by decide), if_neg (show ¬ fullB t 1 = true from fun z => by have := of_decide_eq_true z; omega)]
  · rw [if_neg (show ¬ nI 2 = 0 by decide), if_neg (show ¬ nI 2 = 1 by decide), if_pos (show nI 2 = 2 from rfl)]
    by_cases q : t 13 2 = 4
    · rw [if_pos (show nI (t 13 2) = 4 by rw [q]; rfl), if_pos (show fullB t 2 = true from decide_eq_true (Or.inr (Or.inr ⟨rfl, q⟩)))]
    · rw [if_neg (show ¬ nI (t 13 2) = 4 from fun z => q ((E _ 4 gk (by decide)).mp z)), if_neg (show ¬ fullB t 2 = true from fun z => by have := of_decide_eq_true z; omega)]
  · rw [if_neg (by decide), if_neg (by decide), if_neg (by decide), if_neg (show ¬ fullB t 3 = true from fun z => by have := of_decide_eq_true z; omega)]
  · rw [if_neg (by decide), if_neg (by decide), if_neg (by decide), if_neg (show ¬ fullB t 4 = true from fun z => by have := of_decide_eq_true z; omega)]
  · rw [if_neg (by decide), if_neg (by decide), if_neg (by decide), if_neg (show ¬ fullB t 5 = true from fun z => by have := of_decide_eq_true z; omega)]
  · rw [if_neg (by decide), if_neg (by decide), if_neg (by decide), if_neg (show ¬ fullB t 6 = true from fun z => by have := of_decide_eq_true z; omega)]
  · rw [if_neg (by decide), if_neg (by decide), if_neg (by decide), if_neg (show ¬ fullB t 7 = true from fun z => by have := of_decide_eq_true z; omega)]
/-- what an item comes to in the reference -/
def Rg (m m' : mj_m) : Prop := (∀ a k, ¬ (97 ≤ a ∧ a ≤ 109) → ¬ (a = 95 ∧ (k < 10 ∨ k = 34 ∨ k = 36 ∨ k = 37)) → m'.1 a k = m.1 a k) ∧ m'.2 = m.2
theorem Rg_r (m : mj_m) : Rg m m := ⟨fun _ _ _ _ => rfl, rfl⟩
theorem Rg_t {m m' m'' : mj_m} (h : Rg m m') (h' : Rg m' m'') : Rg m m'' := ⟨fun a k q r => (h'.1 a k q r).trans (h.1 a k q r), h'.2.trans h.2⟩
theorem Rg_w {m m' : mj_m} {a k : Nat} {v : Int32} (h : Rg m m') (q : (97 ≤ a ∧ a ≤ 109) ∨ (a = 95 ∧ (k < 10 ∨ k = 34 ∨ k = 36 ∨ k = 37))) : Rg m (mj_wI m' a k v) := Rg_t h ⟨fun b j h1 h2 => wI_n (by omega), rfl⟩
theorem Re_g {m m' : mj_m} (h : Re m m') : Rg m m' := ⟨fun a k _ q => h.1 a k (by omega), h.2⟩
theorem C9_g {m m' : mj_m} {s : Nat} {L : Nat → Int32} {n p q : Nat} (c : C9 m s L n p) (r : Rg m m') (h : m'.1 95 34 = nI q) : C9 m' s L n q :=
  ⟨by rw [r.1 95 33 (by omega) (by omega)]; exact c.1, h, by rw [r.1 95 35 (by omega) (by omega)]; exact c.2.2.1, fun i hi => by rw [r.2]; exact c.2.2.2.1 i hi, fun i hi => by rw [r.1 117 i (by omega) (by omega)]; exact c.2.2.2.2 i hi⟩
theorem Re_m {m m' : mj_m} {t : aT} {u : Nat → Int32} (hG : Good t) (g : Rep (mg m) t u) (r : Re m m') : Rep (mg m') t u := RT_m hG g (fun a k q => r.1 a k (by unfold okM at q; omega))
def IT9 (m : mj_m) (u : Nat → Int32) (s : Nat) (L : Nat → Int32) (n : Nat) (x : Nat ⊕ (aT × Nat)) (o : Option (Int32 × mj_m)) : Prop :=
  (∃ q, x = .inl q ∧ ∃ m', o = some (0, m') ∧ m'.1 95 37 = nI q ∧ Rg m m') ∨ ∃ r, x = .inr r ∧ ∃ m', o = some (1, m') ∧ C9 m' s L n r.2 ∧ Rep (mg m') r.1 u ∧ Rg m m'
theorem IT9_R {m m1 : mj_m} {u : Nat → Int32} {s : Nat} {L : Nat → Int32} {n : Nat} {x : Nat ⊕ (aT × Nat)} {o : Option (Int32 × mj_m)} (h : IT9 m1 u s L n x o) (r : Rg m m1) : IT9 m u s L n x o := by
  rcases h with ⟨q, a1, m', a2, a3, a4⟩ | ⟨q, a1, m', a2, a3, a4, a5⟩
  · exact Or.inl ⟨q, a1, m', a2, a3, Rg_t r a4⟩
  · exact Or.inr ⟨q, a1, m', a2, a3, a4, Rg_t r a5⟩
theorem bP {L : Nat → Int32} {p lo top : Nat} (h : L p = 32) : nbB L p lo top = nbP L (p + 1) lo top := if_pos h
theorem bN {L : Nat → Int32} {p lo top : Nat} (h : L p ≠ 32) : nbB L p lo top = .inl p := if_neg h
/-- a number, whatever is told -/
theorem num9a {m : mj_m} {s : Nat} {L : Nat → Int32} {n p : Nat} (hL : LL L n) (hs : s < 8) (c : C9 m s L n p) (hp : p ≤ n) {lo top : Nat} (hlo : lo < 1000) (ht : top < 1001) {v1 v2 : Int32} (h1 : v1 = nI lo) (h2 : v2 = nI top - 1) {N : Nat} (hN : 20 ≤ N) :
    (∃ q, nbP L p lo top = .inl q ∧ ∃ m', f_X9_number N v1 v2 (-1) m = some (0, m') ∧ m'.1 95 37 = nI q ∧ Re m m') ∨ ∃ v, nbP L p lo top = .inr v ∧ v.1 ≤ 999 ∧ ∃ m', f_X9_number N v1 v2 (-1) m = some (1, m') ∧ m'.1 95 36 = nI v.1 ∧ C9 m' s L n v.2 ∧ Re m m' := by
  rcases num9 hL hs c hp hlo ht h1 h2 (-1) hN with ⟨q, a1⟩ | ⟨v, a1, ⟨a0, a2⟩ | ⟨a0, a2⟩⟩
  · exact Or.inl ⟨q, a1⟩
  · have := nbP_ok hL hp a1
    exact absurd a0 (nI_neg _ (by omega))
  · have := nbP_ok hL hp a1
    exact Or.inr ⟨v, a1, this.2.2.1, a2⟩
theorem more9a {m : mj_m} {s : Nat} {L : Nat → Int32} {n p : Nat} (hL : LL L n) (hs : s < 8) (c : C9 m s L n p) (hp : p ≤ n) {lo top : Nat} (hlo : lo < 1000) (ht : top < 1001) {v1 v2 : Int32} (h1 : v1 = nI lo) (h2 : v2 = nI top - 1) {N : Nat} (hN : 20 ≤ N) :
    (∃ q, nbB L p lo top = .inl q ∧ ∃ m', f_X9_more N v1 v2 (-1) m = some (0, m') ∧ m'.1 95 37 = nI q ∧ Re m m') ∨ ∃ v, nbB L p lo top = .inr v ∧ v.1 ≤ 999 ∧ ∃ m', f_X9_more N v1 v2 (-1) m = some (1, m') ∧ m'.1 95 36 = nI v.1 ∧ C9 m' s L n v.2 ∧ Re m m' := by
  rcases more9 hL hs c hp hlo ht h1 h2 (-1) hN with ⟨q, a1⟩ | ⟨v, a1, ⟨a0, a2⟩ | ⟨a0, a2⟩⟩
  · exact Or.inl ⟨q, a1⟩
  · have := nbB_ok hL a1
    exact absurd a0 (nI_neg _ (by omega))
  · have := nbB_ok hL a1
    exact Or.inr ⟨v, a1, this.2.2.1, a2⟩
