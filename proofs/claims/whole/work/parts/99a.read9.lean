/-! A TOWN FROM LETTERS: the reference reads a house, an item -/
theorem house9 {m : mj_m} {t : aT} {u : Nat → Int32} {s : Nat} {L : Nat → Int32} {n q : Nat} (hG : Good t) (hL : LL L n) (hs : s < 8) (c : C9 m s L n (q + 1)) (hq : L q = 32) (hp : q + 1 ≤ n) (g : Rep (mg m) t u) (hr : t 13 1 < 10) {N : Nat} (hN : 100 ≤ N) : IT9 m u s L n (hsP L t q) (f_X9_item_104 N 1 m) := by
  unfold f_X9_item_104 hsP
  rw [if_neg n10, if_neg (show ¬ (1 : Int32) = 2 by decide), if_pos (show (1 : Int32) ≤ 2 by decide), bP hq]
  rcases num9a hL hs c hp (lo := 0) (top := 8) (by decide) (by decide) (v1 := 0) (v2 := 7) rfl (by decide) (N := N) (by omega) with ⟨y, a1, m1, a2, a3, a4⟩ | ⟨a, a1, a9, m1, a2, a3, a4, a5⟩
  · rw [a2, bind_some', if_pos rfl]
    exact Or.inl ⟨y, bnS_l a1, m1, rfl, a3, Re_g a4⟩
  have ca := nbP_ok hL hp a1
  rw [a2, bind_some', if_neg n10, bnS_r a1, mw_eq, a3]
  rcases more9a hL hs a4 ca.2.2.2.2 (lo := 0) (top := 10) (by decide) (by decide) (v1 := 0) (v2 := 9) rfl (by decide) (N := N) (by omega) with ⟨y, b1, m2, b2, b3, b4⟩ | ⟨b, b1, b9, m2, b2, b3, b4, b5⟩
  · rw [b2, bind_some', if_pos rfl]
    exact Or.inl ⟨y, bnS_l b1, m2, rfl, b3, Re_g (Re_t a5 b4)⟩
  have cb := nbB_ok hL b1
  rw [b2, bind_some', if_neg n10, bnS_r b1, mw_eq, b3]
  rcases more9a hL hs b4 cb.2.2.2.2 (lo := 0) (top := 100) (by decide) (by decide) (v1 := 0) (v2 := 99) rfl (by decide) (N := N) (by omega) with ⟨y, d1, m3, d2, d3, d4⟩ | ⟨d, d1, d9, m3, d2, d3, d4, d5⟩
  · rw [d2, bind_some', if_pos rfl]
    exact Or.inl ⟨y, bnS_l d1, m3, rfl, d3, Re_g (Re_t (Re_t a5 b5) d4)⟩
  have cd := nbB_ok hL d1
  rw [d2, bind_some', if_neg n10, bnS_r d1, mw_eq, d3]
  rcases more9a hL hs d4 cd.2.2.2.2 (lo := 0) (top := 100) (by decide) (by decide) (v1 := 0) (v2 := 99) rfl (by decide) (N := N) (by omega) with ⟨y, e1, m4, e2, e3, e4⟩ | ⟨e, e1, e9, m4, e2, e3, e4, e5⟩
  · rw [e2, bind_some', if_pos rfl]
    exact Or.inl ⟨y, bnS_l e1, m4, rfl, e3, Re_g (Re_t (Re_t (Re_t a5 b5) d5) e4)⟩
  have ce := nbB_ok hL e1
  rw [e2, bind_some', if_neg n10, bnS_r e1, mw_eq, e3]
  rcases more9a hL hs e4 ce.2.2.2.2 (lo := 1) (top := 100) (by decide) (by decide) (v1 := 1) (v2 := 99) rfl (by decide) (N := N) (by omega) with ⟨y, k1, m5, k2, k3, k4⟩ | ⟨k, k1, k9, m5, k2, k3, k4, k5⟩
  · rw [k2, bind_some', if_pos rfl]
    exact Or.inl ⟨y, bnS_l k1, m5, rfl, k3, Re_g (Re_t (Re_t (Re_t (Re_t a5 b5) d5) e5) k4)⟩
  have ck := nbB_ok hL k1
  have r5 : Re m m5 := Re_t (Re_t (Re_t (Re_t a5 b5) d5) e5) k5
  have g5 := Re_m hG g r5
  rw [k2, bind_some', if_neg n10, bnS_r k1, k3, a9_house (y_houses g5) hr, bind_some']
  obtain ⟨gg0, gg1, gg2⟩ := houseG hG hr (c := a.1) (w := b.1) (d := d.1) (n := e.1) (k := k.1) (fr := 0) (nx := 0) (by omega) (by omega) (by omega) (by omega) (by omega) (Nat.zero_le _) (Nat.zero_le _)
  have g6 := gm_house hG g5 hr (xH a.1 b.1 d.1 e.1 k.1) rfl rfl rfl rfl
  have rr : Rg m (h9w m5 (t 13 1) (nI a.1) (nI b.1) (nI d.1) (nI e.1) (nI k.1)) := by
    unfold h9w
    exact Rg_w (Rg_w (Rg_w (Rg_w (Rg_w (Rg_w (Rg_w (Rg_w (Rg_w (Rg_w (Re_g r5) (by omega)) (by omega)) (by omega)) (by omega)) (by omega)) (by omega)) (by omega)) (by omega)) (by omega)) (by omega)
  have c6 : C9 (h9w m5 (t 13 1) (nI a.1) (nI b.1) (nI d.1) (nI e.1) (nI k.1)) s L n k.2 := C9_g c rr (by
    unfold h9w
    rw [wI_n (by omega), wI_n (by omega), wI_n (by omega), wI_n (by omega), wI_n (by omega), wI_n (by omega), wI_n (by omega), wI_n (by omega), wI_n (by omega), wI_n (by omega)]; exact k4.2.1)
  have t5 : grow t 0 8 1 (xH a.1 b.1 d.1 e.1 k.1) 5 (t 13 1) = 0 := by
    unfold grow
    rw [if_neg (by omega), if_pos ⟨by omega, by omega, rfl⟩]; rfl
  have t6 : grow t 0 8 1 (xH a.1 b.1 d.1 e.1 k.1) 6 (t 13 1) = 0 := by
    unfold grow
    rw [if_neg (by omega), if_pos ⟨by omega, by omega, rfl⟩]; rfl
  have t0 : grow t 0 8 1 (xH a.1 b.1 d.1 e.1 k.1) 13 0 = t 13 0 := by rw [grow_13 _ _ _ _ _ _ (by decide), if_neg (by decide)]
  refine IT9_R ?_ rr
  exact tail9 hG hL hs c6 ck.2.2.2.2 hr gg0 (fun fr hf => (houseG hG hr (c := a.1) (w := b.1) (d := d.1) (n := e.1) (k := k.1) (fr := fr) (nx := 0) (by omega) (by omega) (by omega) (by omega) (by omega) hf (Nat.zero_le _)).2.1) g6 t5 t6 t0 hN
theorem item9 {m : mj_m} {t : aT} {u : Nat → Int32} {s : Nat} {L : Nat → Int32} {n p : Nat} (hG : Good t) (hL : LL L n) (hs : s < 8) (c : C9 m s L n p) (hp : p ≤ n) (g : Rep (mg m) t u) {N : Nat} (hN : 100 ≤ N) : IT9 m u s L n (itP L t p) (f_X9_item N m) := by
  have hn := hL.1
  have gs := GS hG
  have gh := GH hG
  have gk := GK hG
  have wb0 : ∀ x, 0 ≤ x → x ≤ 5 → wb x = 0 := fun x _ h => by unfold wb; rw [if_pos (by omega)]
  -- no word without room stands there
  have no : ∀ K f, f < 8 → ¬ (f < 6 ∧ fitF L p f = wl f ∧ fullB t f = true) → f_X9_item_2 N m K (nI f) = K (nI (f + 1)) := fun K f hf h => by
    obtain ⟨w1, w2⟩ := isWord9 hL hs c hp hf hN
    unfold f_X9_item_2 f_X9_item_33
    rw [if_neg (show ¬ 8 ≤ nI f from (nI_ge hf (by omega) : ¬ nI 8 ≤ nI f)), isFull9 hG g hf]
    by_cases q : fullB t f = true
    · have f3 : f < 6 := by have := of_decide_eq_true q; omega
      rw [w1 f3, if_neg (fun z => h ⟨f3, z, q⟩), bind_some', if_pos rfl, mw_eq, nI_succ]
    · obtain ⟨x, w2⟩ := w2
      rw [w2, bind_some', if_neg q, bind_some', if_pos rfl, mw_eq, nI_succ, ite_self]
  have yes : ∀ K f, f < 6 → fitF L p f = wl f → fullB t f = true → f_X9_item_2 N m K (nI f) = some (0, mj_wI m 95 37 (nI p)) := fun K f hf h1 h2 => by
    obtain ⟨w1, w2⟩ := isWord9 hL hs c hp (show f < 8 by omega) hN
    unfold f_X9_item_2 f_X9_wrong
    rw [if_neg (show ¬ 8 ≤ nI f from (nI_ge (by omega) (by omega) : ¬ nI 8 ≤ nI f)), w1 hf, if_pos h1, bind_some', if_neg n10, isFull9 hG g (by omega), if_pos h2, bind_some', if_neg n10, c.2.1, mw_eq, bind_some', mj_ck_t (show ((0 : Int32) &&& 1 == 0) = true by decide)]
  have go : ∀ d f M, (∀ j, f ≤ j → j < f + d → j < 8 ∧ ¬ (j < 6 ∧ fitF L p j = wl j ∧ fullB t j = true)) → mj_lp (M + d) (f_X9_item_2 N m) (nI f) = mj_lp M (f_X9_item_2 N m) (nI (f + d)) := by
    intro d
    induction d with
    | zero => intro f M _; rfl
    | succ d ih =>
      intro f M h
      obtain ⟨h1, h2⟩ := h f (Nat.le_refl _) (by omega)
      show f_X9_item_2 N m (mj_lp (M + d) (f_X9_item_2 N m)) (nI f) = _
      rw [no _ f h1 h2, ih (f + 1) M (fun j j1 j2 => h j (by omega) (by omega)), show f + 1 + d = f + (d + 1) by omega]
  unfold f_X9_item itP
  have wd := word9 hL hs c hp (fm := 0) (to := 5) (b := 0) (by decide) (by decide) wb0 (by decide) (Or.inl rfl) (v1 := 0) (v2 := 5) rfl rfl (N := N) (by omega)
  -- the words, when no word without room stands there
  have after : (∀ j, j < 8 → ¬ (j < 6 ∧ fitF L p j = wl j ∧ fullB t j = true)) → mj_lp N (f_X9_item_2 N m) 0 = (f_X9_word N 0 5 m).bind (fun r3 => if r3.1 = (-1 : Int32) then (some (0, r3.2)) else (if r3.1 = 0 then (if (r3.2.1 95 0) = 12 then f_X9_item_98 N (nI p) r3.2 else f_X9_item_71 N (nI p) r3.1 r3.2) else f_X9_item_71 N (nI p) r3.1 r3.2)) := fun h => by
    have e := go 8 0 (N - 8) (fun j _ j2 => ⟨by omega, h j (by omega)⟩)
    rw [show N - 8 + 8 = N by omega] at e
    rw [show mj_lp N (f_X9_item_2 N m) 0 = _ from e]
    obtain ⟨M, hM⟩ : ∃ k, N - 8 = k + 1 := ⟨N - 9, by omega⟩
    rw [hM]
    show f_X9_item_2 N m (mj_lp M _) (nI 8) = _
    unfold f_X9_item_2
    rw [if_pos (show (8 : Int32) ≤ nI 8 by decide), mw_eq, c.2.1]
  rcases wd with ⟨y, b1, b2⟩ | ⟨w, b1, bw1, bw2, b3⟩
  · have nofit : ∀ j, j < 6 → fitF L p j ≠ wl j := by
      have H : ∀ d w g y, rwN L (p + 0) d w g = .inl y → ∀ j, w ≤ j → j < w + d → fitF L p j ≠ wl j := by
        intro d
        induction d with
        | zero => intro w g y _ j j1 j2; omega
        | succ d ih =>
          intro w g y h j j1 j2
          unfold rwN at h
          by_cases q : fitF L (p + 0) w = wl w
          · rw [if_pos q] at h; cases h
          · rw [if_neg q] at h
            by_cases jw : j = w
            · rw [jw]; exact q
            · exact ih _ _ _ h j (by omega) (by omega)
      exact fun j hj => H _ _ _ _ b1 j (by omega) (by omega)
    rw [after (fun j _ z => nofit j z.1 z.2.1), b2, bind_some', if_pos rfl]
    exact Or.inl ⟨y, bnS_l b1, _, rfl, wI_e, Rg_w (Rg_r m) (by omega)⟩
  · have fx := (rwN_r _ _ _ b1).2.2
    rw [Nat.add_zero] at b1 b3 fx
    have w7 := wl_le w (by omega)
    have others : ∀ j, j < 8 → j ≠ w → fitF L p j ≠ wl j := fun j hj ne => by
      have := fit_two (x := w) (y := j) (by omega) hj fx (fun z => ne z.symm)
      have := wl_le j hj
      omega
    rw [show (5 + 1 - 0 : Nat) = 6 from rfl] at b1
    rw [bnS_r b1]
    unfold itW
    by_cases q : fullB t w = true
    · rw [if_pos q]
      have e := go w 0 (N - w) (fun j _ j2 => ⟨by omega, fun z => others j (by omega) (by omega) z.2.1⟩)
      rw [show N - w + w = N by omega, Nat.zero_add] at e
      rw [show mj_lp N (f_X9_item_2 N m) 0 = _ from e]
      obtain ⟨M, hM⟩ : ∃ k, N - w = k + 1 := ⟨N - w - 1, by omega⟩
      rw [hM]
      show IT9 m u s L n (.inl p) (f_X9_item_2 N m (mj_lp M _) (nI w))
      rw [yes _ w (by omega) fx q]
      exact Or.inl ⟨p, rfl, _, rfl, wI_e, Rg_w (Rg_r m) (by omega)⟩
    · rw [if_neg q, after (fun j hj z => by
        by_cases jw : j = w
        · rw [jw] at z; exact q z.2.2
        · exact others j hj jw z.2.1)]
      have q' : ¬ ((w = 0 ∧ t 13 0 = 12) ∨ (w = 1 ∧ t 13 1 = 10) ∨ (w = 2 ∧ t 13 2 = 4)) := fun z => q (decide_eq_true z)
      rcases b3 with ⟨b3, b4⟩ | ⟨b3, b4⟩
      · have fi2 : p + wl w < n := by
          rcases Nat.lt_or_ge (p + wl w) n with y | y
          · exact y
          · rw [hL.2 _ y] at b3; exact absurd b3 (by decide)
        rw [b4, bind_some', if_neg (nI_neg _ (by omega))]
        have r1 : Rg m (mj_wI m 95 34 (nI (p + wl w + 1))) := Rg_w (Rg_r m) (by omega)
        have c1 := C9_g c r1 wI_e
        have g1 : Rep (mg (mj_wI m 95 34 (nI (p + wl w + 1)))) t u := Re_m hG g (Re_w (Re_r m) (by omega))
        generalize mj_wI m 95 34 (nI (p + wl w + 1)) = m1 at r1 c1 g1
        dsimp only
        unfold f_X9_item_71 f_X9_item_85
        rw [y_streets g1, y_houses g1, y_shakes g1]
        rcases (by omega : w = 0 ∨ w = 1 ∨ w = 2 ∨ w = 3 ∨ w = 4 ∨ w = 5) with rfl | rfl | rfl | rfl | rfl | rfl
        · rw [if_pos rfl, if_pos (show nI 0 = 0 from rfl), if_neg (show ¬ nI (t 13 0) = 12 from fun z => by have := (nI_eq (a := t 13 0) (b := 12) (by omega) (by omega)).mp z; omega), if_neg (show ¬ nI 0 = 1 by decide), if_neg (show ¬ nI 0 = 2 by decide)]
          exact IT9_R (street9 hG hL hs c1 b3 fi2 g1 (by omega) (by omega)) r1
        · rw [if_neg (by decide), if_pos rfl, if_neg (show ¬ nI 1 = 0 by decide), if_pos (show nI 1 = 1 from rfl), if_neg (show ¬ nI (t 13 1) = 10 from fun z => by have := (nI_eq (a := t 13 1) (b := 10) (by omega) (by omega)).mp z; omega), if_neg (show ¬ nI 1 = 2 by decide)]
          exact IT9_R (house9 hG hL hs c1 b3 fi2 g1 (by omega) hN) r1
        · rw [if_neg (by decide), if_neg (by decide), if_pos rfl, if_neg (show ¬ nI 2 = 0 by decide), if_neg (show ¬ nI 2 = 1 by decide), if_pos (show nI 2 = 2 from rfl), if_neg (show ¬ nI (t 13 2) = 4 from fun z => by have := (nI_eq (a := t 13 2) (b := 4) (by omega) (by omega)).mp z; omega)]
          exact IT9_R (shake9 hG hL hs c1 b3 fi2 g1 (by omega) (by omega)) r1
        · rw [if_neg (by decide), if_neg (by decide), if_neg (by decide), if_pos rfl, if_neg (show ¬ nI 3 = 0 by decide), if_neg (show ¬ nI 3 = 1 by decide), if_neg (show ¬ nI 3 = 2 by decide)]
          unfold f_X9_item_104 f_X9_item_217
          rw [if_neg (show ¬ nI 3 = 0 by decide), if_neg (show ¬ nI 3 = 2 by decide), if_neg (show ¬ nI 3 ≤ 2 by decide), if_pos (show nI 3 = 3 from rfl), if_pos (show nI 3 = 3 from rfl)]
          exact IT9_R (scal9 hG hL hs c1 b3 fi2 g1 (i := 3) (lo := 1) (top := 1000) (by decide) (by decide) (by decide) rfl (by decide) (by omega)) r1
        · rw [if_neg (by decide), if_neg (by decide), if_neg (by decide), if_neg (by decide), if_pos rfl, if_neg (show ¬ nI 4 = 0 by decide), if_neg (show ¬ nI 4 = 1 by decide), if_neg (show ¬ nI 4 = 2 by decide)]
          unfold f_X9_item_104 f_X9_item_217
          rw [if_neg (show ¬ nI 4 = 0 by decide), if_neg (show ¬ nI 4 = 2 by decide), if_neg (show ¬ nI 4 ≤ 2 by decide), if_neg (show ¬ nI 4 = 3 by decide), if_neg (show ¬ nI 4 = 3 by decide)]
          exact IT9_R (scal9 hG hL hs c1 b3 fi2 g1 (i := 4) (lo := 0) (top := 11) (by decide) (by decide) (by decide) rfl (by decide) (by omega)) r1
        · rw [if_neg (by decide), if_neg (by decide), if_neg (by decide), if_neg (by decide), if_neg (by decide), if_neg (show ¬ nI 5 = 0 by decide), if_neg (show ¬ nI 5 = 1 by decide), if_neg (show ¬ nI 5 = 2 by decide)]
          unfold f_X9_item_104 f_X9_item_217
          rw [if_neg (show ¬ nI 5 = 0 by decide), if_neg (show ¬ nI 5 = 2 by decide), if_neg (show ¬ nI 5 ≤ 2 by decide), if_neg (show ¬ nI 5 = 3 by decide), if_neg (show ¬ nI 5 = 3 by decide)]
          exact IT9_R (scal9 hG hL hs c1 b3 fi2 g1 (i := 5) (lo := 0) (top := 11) (by decide) (by decide) (by decide) rfl (by decide) (by omega)) r1
      · rw [b4, bind_some', if_pos rfl]
        have nb : ∀ lo top, nbB L (p + wl w) lo top = .inl (p + wl w) := fun lo top => bN b3
        refine Or.inl ⟨p + wl w, ?_, _, rfl, wI_e, Rg_w (Rg_r m) (by omega)⟩
        unfold stP hsP skP scP
        rcases (by omega : w = 0 ∨ w = 1 ∨ w = 2 ∨ w = 3 ∨ w = 4 ∨ w = 5) with rfl | rfl | rfl | rfl | rfl | rfl
        · rw [if_pos rfl, nb]; rfl
        · rw [if_neg (by decide), if_pos rfl, nb]; rfl
        · rw [if_neg (by decide), if_neg (by decide), if_pos rfl, nb]; rfl
        · rw [if_neg (by decide), if_neg (by decide), if_neg (by decide), if_pos rfl, nb]; rfl
        · rw [if_neg (by decide), if_neg (by decide), if_neg (by decide), if_neg (by decide), if_pos rfl, nb]; rfl
        · rw [if_neg (by decide), if_neg (by decide), if_neg (by decide), if_neg (by decide), if_neg (by decide), nb]; rfl
