/-! A TOWN FROM LETTERS: the reference's words, read -/
theorem wd9 {m : mj_m} {s : Nat} {L : Nat → Int32} {n p : Nat} (c : C9 m s L n p) {w i : Nat} (h : wo w + i < 58) : mj_b 0 117 (nI (wo w + i)) = true ∧ m.1 117 (nI (wo w + i)).toNatClampNeg = wx w i := by
  rw [nI_clamp (by omega)]
  exact ⟨bb_117 h, c.2.2.2.2 _ h⟩
theorem skip9 {m : mj_m} {s : Nat} {L : Nat → Int32} {n p : Nat} (c : C9 m s L n p) {w : Nat} (hw : w < 8) (N : Nat) (κ : Int32 × Int32 × Int32 → Option (Int32 × mj_m)) (v1 v2 v4 v5 : Int32) : ∀ d i M, i + d = wb w + wl w + 1 → d < M → mj_lp M (f_X9_word_118 N κ v1 v2 v4 v5 m) (nI (wo w + i)) = κ (nI (wo (w + 1)), v4, v5 + 1) := by
  obtain ⟨b1, b2, b3, b4⟩ := wx_b w hw
  intro d
  induction d with
  | zero =>
    intro i M h1 h2
    obtain ⟨M, rfl⟩ : ∃ k, M = k + 1 := ⟨M - 1, by omega⟩
    obtain ⟨c1, c2⟩ := wd9 c (w := w) (i := i) (by omega)
    show f_X9_word_118 N κ v1 v2 v4 v5 m (mj_lp M _) (nI (wo w + i)) = _
    unfold f_X9_word_118
    rw [mj_ck_t c1, c2, if_pos (by rw [show i = wb w + wl w + 1 by omega]; exact b2), mw_eq, mw_eq, ← nI_succ, b3, show i = wb w + wl w + 1 by omega]
  | succ d ih =>
    intro i M h1 h2
    obtain ⟨M, rfl⟩ : ∃ k, M = k + 1 := ⟨M - 1, by omega⟩
    obtain ⟨c1, c2⟩ := wd9 c (w := w) (i := i) (by omega)
    show f_X9_word_118 N κ v1 v2 v4 v5 m (mj_lp M (f_X9_word_118 N κ v1 v2 v4 v5 m)) (nI (wo w + i)) = _
    have i1 := ih (i + 1) M (by omega) (by omega)
    generalize mj_lp M (f_X9_word_118 N κ v1 v2 v4 v5 m) = K at i1
    unfold f_X9_word_118
    rw [mj_ck_t c1, c2, if_neg (wx_nz w hw i (by omega)).1, mw_eq, ← nI_succ]
    exact i1
theorem scan9 {m : mj_m} {s : Nat} {L : Nat → Int32} {n p : Nat} (hL : LL L n) (hs : s < 8) (c : C9 m s L n p) (hp : p ≤ n) {w : Nat} (hw : w < 8) (N : Nat) (κ : Int32 × Int32 × Int32 → Option (Int32 × mj_m)) (v1 v2 v3 v4 v5 : Int32) : ∀ d i M, i + d = wb w + wl w + 1 → d < M → mj_lp M (f_X9_word_32 N κ v1 v2 v3 v4 v5 m) (nI (p + i), nI (wo w + i)) = f_X9_word_83 N κ v1 v2 v3 v4 v5 (nI (p + fitG L p (wx w) d i)) (nI (wo w + fitG L p (wx w) d i)) m := by
  have hn := hL.1
  have w7 := wl_le w hw
  have wbl : wb w ≤ 1 := by unfold wb; by_cases q : w < 6; rw [if_pos q]; omega; rw [if_neg q]; omega
  obtain ⟨b1, b2, b3, b4⟩ := wx_b w hw
  intro d
  induction d with
  | zero =>
    intro i M h1 h2
    obtain ⟨M, rfl⟩ : ∃ k, M = k + 1 := ⟨M - 1, by omega⟩
    obtain ⟨c1, c2⟩ := wd9 c (w := w) (i := i) (by omega)
    show f_X9_word_32 N κ v1 v2 v3 v4 v5 m (mj_lp M _) (nI (p + i), nI (wo w + i)) = _
    unfold f_X9_word_32
    dsimp only
    rw [mj_ck_t c1, c2, if_pos (by rw [show i = wb w + wl w + 1 by omega]; exact b2)]
    rfl
  | succ d ih =>
    intro i M h1 h2
    obtain ⟨M, rfl⟩ : ∃ k, M = k + 1 := ⟨M - 1, by omega⟩
    obtain ⟨c1, c2⟩ := wd9 c (w := w) (i := i) (by omega)
    show f_X9_word_32 N κ v1 v2 v3 v4 v5 m (mj_lp M (f_X9_word_32 N κ v1 v2 v3 v4 v5 m)) (nI (p + i), nI (wo w + i)) = f_X9_word_83 N κ v1 v2 v3 v4 v5 (nI (p + (if L (p + i) = wx w i then fitG L p (wx w) d (i + 1) else i))) (nI (wo w + (if L (p + i) = wx w i then fitG L p (wx w) d (i + 1) else i))) m
    have i1 := ih (i + 1) M (by omega) (by omega)
    generalize mj_lp M (f_X9_word_32 N κ v1 v2 v3 v4 v5 m) = K at i1
    obtain ⟨z1, z2⟩ := wx_nz w hw i (by omega)
    unfold f_X9_word_32
    dsimp only
    rw [mj_ck_t c1, c2, if_neg z1, c.2.2.1]
    rcases Nat.lt_or_ge (p + i) n with y | y
    · obtain ⟨e1, e2⟩ := cell9 hL hs c y
      rw [if_neg (nI_ge y (by omega)), c.1, mj_ck_t e1, e2]
      by_cases q : L (p + i) = wx w i
      · rw [if_pos q, if_pos q, mw_eq, mw_eq, ← nI_succ, ← nI_succ]; exact i1
      · rw [if_neg q, if_neg q]
    · rw [if_pos (nI_le y (by omega)), if_neg (show ¬ L (p + i) = wx w i by rw [hL.2 _ y]; exact fun z => z2 z.symm)]
theorem step9 {m : mj_m} {s : Nat} {L : Nat → Int32} {n p : Nat} (hL : LL L n) (hs : s < 8) (c : C9 m s L n p) (hp : p ≤ n) {w fm to G : Nat} (h1 : fm ≤ w) (h2 : w ≤ to) (h3 : to ≤ 7) (hG : G ≤ 1000) {N : Nat} (hN : 20 ≤ N) (κ : Int32 × Int32 × Int32 → Option (Int32 × mj_m)) : f_X9_word_11 N (nI fm) (nI to) m κ (nI (wo w), nI G, nI w) = if fitX L p w = wb w + wl w + 1 then some (nI w, mj_wI m 95 34 (nI (p + fitX L p w))) else κ (nI (wo (w + 1)), nI (max G (p + fitX L p w)), nI (w + 1)) := by
  have hn := hL.1
  have w7 := wl_le w (by omega)
  have wbl : wb w ≤ 1 := by unfold wb; by_cases q : w < 6; rw [if_pos q]; omega; rw [if_neg q]; omega
  obtain ⟨b1, b2, b3, b4⟩ := wx_b w (by omega)
  have fl := fitG_le L p (wx w) (wb w + wl w + 1) 0
  have sc := scan9 hL hs c hp (w := w) (by omega) N κ (nI fm) (nI to) (nI (wo w)) (nI G) (nI w) (wb w + wl w + 1) 0 N (by omega) (by omega)
  unfold f_X9_word_11
  dsimp only
  rw [if_neg (nI_nlt (by omega) (by omega)), mw_eq, if_neg (nI_nlt (by omega) (by omega)), c.2.1]
  rw [show mj_lp N (f_X9_word_32 N κ (nI fm) (nI to) (nI (wo w)) (nI G) (nI w) m) (nI p, nI (wo w)) = _ from sc]
  show f_X9_word_83 N κ (nI fm) (nI to) (nI (wo w)) (nI G) (nI w) (nI (p + fitX L p w)) (nI (wo w + fitX L p w)) m = _
  have fx : fitX L p w ≤ wb w + wl w + 1 := by unfold fitX; omega
  obtain ⟨c1, c2⟩ := wd9 c (w := w) (i := fitX L p w) (by omega)
  have sk := fun v4 => skip9 c (w := w) (by omega) N κ (nI fm) (nI to) v4 (nI w) (wb w + wl w + 1) 0 N (by omega) (by omega)
  unfold f_X9_word_83 f_X9_word_116
  rw [mj_ck_t c1, c2]
  by_cases q : fitX L p w = wb w + wl w + 1
  · rw [if_pos (by rw [q]; exact b2), if_pos q, mw_eq]
  · rw [if_neg (wx_nz w (by omega) _ (by omega)).1, if_neg q]
    rcases Nat.lt_or_ge G (p + fitX L p w) with y | y
    · rw [if_neg (nI_ge y (by omega)), Nat.max_eq_right (by omega), nI_succ w]
      exact sk _
    · rw [if_pos (nI_le y (by omega)), Nat.max_eq_left y, nI_succ w]
      exact sk _
theorem dstW : ∀ x, x < 8 → ∀ y, y < 8 → x ≠ y → ∃ j, j < 3 ∧ wc x j ≠ wc y j := by decide +kernel
theorem fit_two {L : Nat → Int32} {p x y : Nat} (hx : x < 8) (hy : y < 8) (h : fitF L p x = wl x) (ne : x ≠ y) : fitF L p y ≤ 2 := by
  obtain ⟨j, j1, j2⟩ := dstW x hx y hy ne
  have w1 := wl_le x hx
  rcases Nat.lt_or_ge j (fitF L p y) with z | z
  · have a := fitN_at L p x (wl x) 0 j (by omega) (by show j < fitF L p x; omega)
    have b := fitN_at L p y (wl y) 0 j (by omega) z
    exact absurd (a.symm.trans b) j2
  · omega
theorem rest9 {m : mj_m} {s : Nat} {L : Nat → Int32} {n p : Nat} (hL : LL L n) (hs : s < 8) (c : C9 m s L n p) (hp : p ≤ n) {fm to G : Nat} (h3 : to ≤ 7) (hG : G ≤ 1000) {N : Nat} (hN : 20 ≤ N) : ∀ d w M, w + d = to + 1 → fm ≤ w → d < M → (∀ x, w ≤ x → x ≤ to → fitX L p x ≠ wb x + wl x + 1 ∧ p + fitX L p x ≤ G) → mj_lp M (f_X9_word_11 N (nI fm) (nI to) m) (nI (wo w), nI G, nI w) = some (-1, mj_wI m 95 37 (nI G)) := by
  intro d
  induction d with
  | zero =>
    intro w M h1 h2 h4 h5
    obtain ⟨M, rfl⟩ : ∃ k, M = k + 1 := ⟨M - 1, by omega⟩
    show f_X9_word_11 N (nI fm) (nI to) m (mj_lp M _) (nI (wo w), nI G, nI w) = _
    unfold f_X9_word_11
    dsimp only
    rw [if_pos (nI_lt (by omega) (by omega)), mw_eq]
  | succ d ih =>
    intro w M h1 h2 h4 h5
    obtain ⟨M, rfl⟩ : ∃ k, M = k + 1 := ⟨M - 1, by omega⟩
    obtain ⟨e1, e2⟩ := h5 w (by omega) (by omega)
    show f_X9_word_11 N (nI fm) (nI to) m (mj_lp M (f_X9_word_11 N (nI fm) (nI to) m)) (nI (wo w), nI G, nI w) = _
    rw [step9 hL hs c hp h2 (by omega) h3 hG hN, if_neg e1, Nat.max_eq_left e2]
    exact ih (w + 1) M (by omega) (by omega) (by omega) (fun x x1 x2 => h5 x (by omega) x2)
theorem words9 {m : mj_m} {s : Nat} {L : Nat → Int32} {n p : Nat} (hL : LL L n) (hs : s < 8) (c : C9 m s L n p) (hp : p ≤ n) {fm to b : Nat} (h3 : to ≤ 7) (hb : ∀ x, fm ≤ x → x ≤ to → wb x = b) (hbb : b ≤ 1) (h32 : b = 0 ∨ L p = 32) {N : Nat} (hN : 20 ≤ N) : ∀ d w g G M, w + d = to + 1 → fm ≤ w → d < M → g ≤ 7 → G ≤ 1000 → (G = p + b + g ∨ (G ≤ p + b ∧ g = 0 ∧ 0 < d)) → (∀ x, w ≤ x → x ≤ to → fitF L (p + b) x = wl x → g ≤ 2) →
    (∃ q, rwN L (p + b) d w g = .inl q ∧ mj_lp M (f_X9_word_11 N (nI fm) (nI to) m) (nI (wo w), nI G, nI w) = some (-1, mj_wI m 95 37 (nI q))) ∨
    ∃ x, rwN L (p + b) d w g = .inr x ∧ fm ≤ x ∧ x ≤ to ∧ ((L (p + b + wl x) = 32 ∧ mj_lp M (f_X9_word_11 N (nI fm) (nI to) m) (nI (wo w), nI G, nI w) = some (nI x, mj_wI m 95 34 (nI (p + b + wl x + 1)))) ∨ (L (p + b + wl x) ≠ 32 ∧ mj_lp M (f_X9_word_11 N (nI fm) (nI to) m) (nI (wo w), nI G, nI w) = some (-1, mj_wI m 95 37 (nI (p + b + wl x))))) := by
  have hn := hL.1
  intro d
  induction d with
  | zero =>
    intro w g G M h1 h2 h4 g7 gk hg h5
    obtain ⟨M, rfl⟩ : ∃ k, M = k + 1 := ⟨M - 1, by omega⟩
    refine Or.inl ⟨p + b + g, rfl, ?_⟩
    show f_X9_word_11 N (nI fm) (nI to) m (mj_lp M _) (nI (wo w), nI G, nI w) = _
    unfold f_X9_word_11
    dsimp only
    rw [if_pos (nI_lt (by omega) (by omega)), mw_eq, show G = p + b + g by omega]
  | succ d ih =>
    intro w g G M h1 h2 h4 g7 gk hg h5
    obtain ⟨M, rfl⟩ : ∃ k, M = k + 1 := ⟨M - 1, by omega⟩
    have w7 := wl_le w (by omega)
    have bw := hb w h2 (by omega)
    have fl := fitF_le L (p + b) w
    have st := step9 hL hs c hp h2 (show w ≤ to by omega) h3 gk hN (mj_lp M (f_X9_word_11 N (nI fm) (nI to) m))
    show (∃ q, (if fitF L (p + b) w = wl w then Sum.inr w else rwN L (p + b) d (w + 1) (max g (fitF L (p + b) w))) = .inl q ∧ f_X9_word_11 N (nI fm) (nI to) m (mj_lp M (f_X9_word_11 N (nI fm) (nI to) m)) (nI (wo w), nI G, nI w) = _) ∨ ∃ x, (if fitF L (p + b) w = wl w then Sum.inr w else rwN L (p + b) d (w + 1) (max g (fitF L (p + b) w))) = .inr x ∧ _ ∧ _ ∧ ((_ ∧ f_X9_word_11 N (nI fm) (nI to) m (mj_lp M (f_X9_word_11 N (nI fm) (nI to) m)) (nI (wo w), nI G, nI w) = _) ∨ (_ ∧ f_X9_word_11 N (nI fm) (nI to) m (mj_lp M (f_X9_word_11 N (nI fm) (nI to) m)) (nI (wo w), nI G, nI w) = _))
    rw [st]
    by_cases q : fitF L (p + b) w = wl w
    · rw [if_pos q]
      have g2 := h5 w (Nat.le_refl _) (by omega) q
      refine Or.inr ⟨w, rfl, h2, by omega, ?_⟩
      have fx := fitX_full (L := L) (p := p) (w := w) (by omega) (by rw [bw]; exact h32) (by rw [bw]; exact q)
      rw [bw] at fx
      by_cases y : L (p + b + wl w) = 32
      · rw [if_pos y] at fx
        refine Or.inl ⟨y, ?_⟩
        rw [if_pos (by rw [fx, bw]), fx, show p + (b + wl w + 1) = p + b + wl w + 1 by omega]
      · rw [if_neg y] at fx
        refine Or.inr ⟨y, ?_⟩
        rw [if_neg (by rw [fx, bw]; omega), fx, Nat.max_eq_right (by omega), show p + (b + wl w) = p + b + wl w by omega]
        refine rest9 hL hs c hp h3 ?_ hN d (w + 1) M (by omega) (by omega) (by omega) (fun x x1 x2 => ?_)
        · have := fitF_in hL (w := w) (p := p + b) (by omega) (by
            rcases Nat.eq_zero_or_pos b with z | z
            · omega
            · have l32 : L p = 32 := by rcases h32 with z2 | z2; omega; exact z2
              rcases Nat.lt_or_ge p n with y2 | y2
              · omega
              · rw [hL.2 _ y2] at l32; exact absurd l32 (by decide))
          omega
        · have bx := hb x (by omega) x2
          have x4 := wl_le x (by omega)
          have f2 := fit_two (L := L) (p := p + b) (x := w) (y := x) (by omega) (by omega) q (by omega)
          have e := fitX_no (L := L) (p := p) (w := x) (by omega) (by rw [bx]; exact h32) (by rw [bx]; omega)
          rw [bx] at e
          rw [e, bx]
          omega
    · rw [if_neg q]
      have e := fitX_no (L := L) (p := p) (w := w) (by omega) (by rw [bw]; exact h32) (by rw [bw]; exact q)
      rw [bw] at e
      rw [if_neg (by rw [e, bw]; omega), e]
      have pn : p + b + fitF L (p + b) w ≤ 1000 := by omega
      rcases ih (w + 1) (max g (fitF L (p + b) w)) (max G (p + (b + fitF L (p + b) w))) M (by omega) (by omega) (by omega) (by omega) (by omega) (by omega) (fun x x1 x2 x3 => by
        have f2 := fit_two (L := L) (p := p + b) (x := x) (y := w) (by omega) (by omega) x3 (by omega)
        have g2 := h5 x (by omega) x2 x3
        omega) with ⟨y, i1, i2⟩ | ⟨x, i1, i2⟩
      · exact Or.inl ⟨y, i1, i2⟩
      · exact Or.inr ⟨x, i1, i2⟩
theorem to9 {m : mj_m} {s : Nat} {L : Nat → Int32} {n p : Nat} (c : C9 m s L n p) {fm to : Nat} (h2 : fm ≤ to) (h3 : to ≤ 7) (N : Nat) (hN : 20 ≤ N) (G : Int32) : ∀ d w M, w + d = fm → mj_lp (M + d) (f_X9_word_11 N (nI fm) (nI to) m) (nI (wo w), G, nI w) = mj_lp M (f_X9_word_11 N (nI fm) (nI to) m) (nI (wo fm), G, nI fm) := by
  intro d
  induction d with
  | zero => intro w M h; rw [show w = fm by omega]; rfl
  | succ d ih =>
    intro w M h
    have w7 := wl_le w (by omega)
    have wbl : wb w ≤ 1 := by unfold wb; by_cases q : w < 6; rw [if_pos q]; omega; rw [if_neg q]; omega
    show f_X9_word_11 N (nI fm) (nI to) m (mj_lp (M + d) (f_X9_word_11 N (nI fm) (nI to) m)) (nI (wo w), G, nI w) = _
    have i1 := ih (w + 1) M (by omega)
    generalize mj_lp (M + d) (f_X9_word_11 N (nI fm) (nI to) m) = K at i1
    unfold f_X9_word_11
    dsimp only
    rw [if_neg (nI_nlt (by omega) (by omega)), mw_eq, if_pos (nI_lt (by omega) (by omega))]
    rw [show mj_lp N (f_X9_word_118 N K (nI fm) (nI to) G (nI w) m) (nI (wo w)) = _ from skip9 c (w := w) (by omega) N K (nI fm) (nI to) G (nI w) (wb w + wl w + 1) 0 N (by omega) (by omega), ← nI_succ]
    exact i1
/-- a word stands there, with a blank behind it; or the fault's place -/
theorem word9 {m : mj_m} {s : Nat} {L : Nat → Int32} {n p : Nat} (hL : LL L n) (hs : s < 8) (c : C9 m s L n p) (hp : p ≤ n) {fm to b : Nat} (h2 : fm ≤ to) (h3 : to ≤ 7) (hb : ∀ x, fm ≤ x → x ≤ to → wb x = b) (hbb : b ≤ 1) (h32 : b = 0 ∨ L p = 32) {v1 v2 : Int32} (e1 : v1 = nI fm) (e2 : v2 = nI to) {N : Nat} (hN : 30 ≤ N) :
    (∃ q, rwN L (p + b) (to + 1 - fm) fm 0 = .inl q ∧ f_X9_word N v1 v2 m = some (-1, mj_wI m 95 37 (nI q))) ∨
    ∃ x, rwN L (p + b) (to + 1 - fm) fm 0 = .inr x ∧ fm ≤ x ∧ x ≤ to ∧ ((L (p + b + wl x) = 32 ∧ f_X9_word N v1 v2 m = some (nI x, mj_wI m 95 34 (nI (p + b + wl x + 1)))) ∨ (L (p + b + wl x) ≠ 32 ∧ f_X9_word N v1 v2 m = some (-1, mj_wI m 95 37 (nI (p + b + wl x))))) := by
  have hn := hL.1
  unfold f_X9_word
  rw [mw_eq, c.2.1, e1, e2]
  have t := to9 c h2 h3 N (by omega) (nI p) fm 0 (N - fm) (by omega)
  rw [show N - fm + fm = N by omega] at t
  rw [show mj_lp N (f_X9_word_11 N (nI fm) (nI to) m) (0, nI p, 0) = _ from t]
  exact words9 hL hs c hp h3 hb hbb h32 (by omega) (to + 1 - fm) fm 0 p (N - fm) (by omega) (by omega) (by omega) (by omega) (by omega) (by omega) (fun _ _ _ _ => by omega)
