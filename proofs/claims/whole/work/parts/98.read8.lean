/-! A TOWN FROM LETTERS: the reference reads an item, further -/
theorem n10 : ¬ (1 : Int32) = 0 := by decide
theorem street9 {m : mj_m} {t : aT} {u : Nat → Int32} {s : Nat} {L : Nat → Int32} {n q : Nat} (hG : Good t) (hL : LL L n) (hs : s < 8) (c : C9 m s L n (q + 1)) (hq : L q = 32) (hp : q + 1 ≤ n) (g : Rep (mg m) t u) (hr : t 13 0 < 12) {N : Nat} (hN : 20 ≤ N) : IT9 m u s L n (stP L t q) (f_X9_item_104 N 0 m) := by
  unfold f_X9_item_104 stP
  rw [if_pos rfl, bP hq]
  rcases num9a hL hs c hp (lo := 0) (top := 8) (by decide) (by decide) (v1 := 0) (v2 := 7) rfl (by decide) hN with ⟨y, a1, m1, a2, a3, a4⟩ | ⟨a, a1, a9, m1, a2, a3, a4, a5⟩
  · rw [a2, bind_some', if_pos rfl]
    exact Or.inl ⟨y, bnS_l a1, m1, rfl, a3, Re_g a4⟩
  have ca := nbP_ok hL hp a1
  rw [a2, bind_some', if_neg n10, bnS_r a1, mw_eq, a3]
  rcases more9 hL hs a4 ca.2.2.2.2 (lo := 0) (top := 8) (by decide) (by decide) (v1 := 0) (v2 := 7) rfl (by decide) (nI a.1) hN with ⟨y, b1, m2, b2, b3, b4⟩ | ⟨b, b1, ⟨b0, m2, b2, b3, b4⟩ | ⟨b0, m2, b2, b3, b4, b5⟩⟩
  · rw [b2, bind_some', if_pos rfl]
    exact Or.inl ⟨y, bnS_l b1, m2, rfl, b3, Re_g (Re_t a5 b4)⟩
  · have cb := nbB_ok hL b1
    rw [b2, bind_some', if_pos rfl, bnS_r b1, if_pos ((nI_eq (by omega) (by omega)).mp b0).symm]
    exact Or.inl ⟨_, rfl, m2, rfl, b3, Re_g (Re_t a5 b4)⟩
  · have cb := nbB_ok hL b1
    have r2 := Re_t a5 b5
    have g2 := Re_m hG g r2
    rw [b2, bind_some', if_neg n10, bnS_r b1, if_neg (fun z => b0 (by rw [z])), b3, a9_street (y_streets g2) hr, bind_some']
    have rr : Rg m (mj_wI (mj_wI (mj_wI m2 97 (t 13 0) (nI a.1)) 98 (t 13 0) (nI b.1)) 95 0 (nI (t 13 0 + 1))) := Rg_w (Rg_w (Rg_w (Re_g r2) (by omega)) (by omega)) (by omega)
    exact Or.inr ⟨_, rfl, _, rfl, C9_g c rr (by rw [wI_n (by omega), wI_n (by omega), wI_n (by omega)]; exact b4.2.1), gm_street hG g2 hr (xS a.1 b.1), rr⟩
theorem shake9 {m : mj_m} {t : aT} {u : Nat → Int32} {s : Nat} {L : Nat → Int32} {n q : Nat} (hG : Good t) (hL : LL L n) (hs : s < 8) (c : C9 m s L n (q + 1)) (hq : L q = 32) (hp : q + 1 ≤ n) (g : Rep (mg m) t u) (hr : t 13 2 < 4) {N : Nat} (hN : 20 ≤ N) : IT9 m u s L n (skP L t q) (f_X9_item_104 N 2 m) := by
  unfold f_X9_item_104 skP
  rw [if_neg (show ¬ (2 : Int32) = 0 by decide), if_pos rfl, bP hq]
  rcases num9a hL hs c hp (lo := 0) (top := 100) (by decide) (by decide) (v1 := 0) (v2 := 99) rfl (by decide) hN with ⟨y, a1, m1, a2, a3, a4⟩ | ⟨a, a1, a9, m1, a2, a3, a4, a5⟩
  · rw [a2, bind_some', if_pos rfl]
    exact Or.inl ⟨y, bnS_l a1, m1, rfl, a3, Re_g a4⟩
  have ca := nbP_ok hL hp a1
  rw [a2, bind_some', if_neg n10, bnS_r a1, mw_eq, a3]
  rcases more9a hL hs a4 ca.2.2.2.2 (lo := 0) (top := 10) (by decide) (by decide) (v1 := 0) (v2 := 9) rfl (by decide) hN with ⟨y, b1, m2, b2, b3, b4⟩ | ⟨b, b1, b9, m2, b2, b3, b4, b5⟩
  · rw [b2, bind_some', if_pos rfl]
    exact Or.inl ⟨y, bnS_l b1, m2, rfl, b3, Re_g (Re_t a5 b4)⟩
  · have cb := nbB_ok hL b1
    have r2 := Re_t a5 b5
    have g2 := Re_m hG g r2
    rw [b2, bind_some', if_neg n10, bnS_r b1, b3, a9_shake (y_shakes g2) hr, bind_some']
    have rr : Rg m (mj_wI (mj_wI (mj_wI m2 99 (t 13 2) (nI a.1)) 100 (t 13 2) (nI b.1)) 95 2 (nI (t 13 2 + 1))) := Rg_w (Rg_w (Rg_w (Re_g r2) (by omega)) (by omega)) (by omega)
    exact Or.inr ⟨_, rfl, _, rfl, C9_g c rr (by rw [wI_n (by omega), wI_n (by omega), wI_n (by omega)]; exact b4.2.1), gm_shake hG g2 hr (xK a.1 b.1), rr⟩
theorem scal9 {m : mj_m} {t : aT} {u : Nat → Int32} {s : Nat} {L : Nat → Int32} {n q i lo top : Nat} (hG : Good t) (hL : LL L n) (hs : s < 8) (c : C9 m s L n (q + 1)) (hq : L q = 32) (hp : q + 1 ≤ n) (g : Rep (mg m) t u) (hi : 3 ≤ i ∧ i < 6) (hlo : lo < 1000) (ht : top < 1001) {v1 v2 : Int32} (h1 : v1 = nI lo) (h2 : v2 = nI top - 1) {N : Nat} (hN : 20 ≤ N) : IT9 m u s L n (scP L t q lo top i) (f_X9_item_230 N (nI i) v1 v2 m) := by
  unfold f_X9_item_230 scP
  rw [bP hq]
  rcases num9a hL hs c hp hlo ht h1 h2 hN with ⟨y, a1, m1, a2, a3, a4⟩ | ⟨a, a1, a9, m1, a2, a3, a4, a5⟩
  · rw [a2, bind_some', if_pos rfl]
    exact Or.inl ⟨y, bnS_l a1, m1, rfl, a3, Re_g a4⟩
  rw [a2, bind_some', if_neg n10, bnS_r a1, a3]
  have g1 := Re_m hG g a5
  have fin : IT9 m u s L n (.inr (mj_up t 13 i a.1, a.2)) (some (1, mj_wI m1 95 i (nI a.1))) := by
    have rr : Rg m (mj_wI m1 95 i (nI a.1)) := Rg_w (Re_g a5) (by omega)
    exact Or.inr ⟨_, rfl, _, rfl, C9_g c rr (by rw [wI_n (by omega)]; exact a4.2.1), Rep_msc hG g1 hi.1 hi.2, rr⟩
  rcases (by omega : i = 3 ∨ i = 4 ∨ i = 5) with rfl | rfl | rfl
  · rw [if_pos (show nI 3 = 3 from rfl), mw_eq]; exact fin
  · rw [if_neg (show ¬ nI 4 = 3 by decide), if_pos (show nI 4 = 4 from rfl), mw_eq]; exact fin
  · rw [if_neg (show ¬ nI 5 = 3 by decide), if_neg (show ¬ nI 5 = 4 by decide), mw_eq]; exact fin
theorem up0 {t : aT} {f i : Nat} (h : t f i = 0) : mj_up t f i 0 = t := by
  funext a b
  rw [up_at]
  by_cases q : a = f ∧ b = i
  · rw [if_pos q, q.1, q.2, h]
  · rw [if_neg q]
theorem g396 {m : mj_m} {s : Nat} {L : Nat → Int32} {n p : Nat} (hL : LL L n) (hs : s < 8) (c : C9 m s L n p) (hp : p ≤ n) {k : Nat} (hk : k < 2) (N : Nat) (v7 v8 : Int32) (κ : Int32 × Int32 × Int32 × mj_m → Option (Int32 × mj_m)) : f_X9_item_396 N v7 κ (v8, 1, nI k, m) = if L p = 32 then (if v8 = 0 then f_X9_item_466 N κ v7 v8 1 (nI k) 6 m else f_X9_item_466 N κ v7 v8 1 (nI k) 7 m) else some (1, m) := by
  have hn := hL.1
  unfold f_X9_item_396 f_X9_item_442 f_X9_item_443
  dsimp only
  rw [if_neg (show ¬ 2 ≤ nI k from (nI_ge hk (by omega) : ¬ nI 2 ≤ nI k)), if_neg n10, c.2.2.1, c.2.1, c.1]
  rcases Nat.lt_or_ge p n with y | y
  · obtain ⟨e1, e2⟩ := cell9 hL hs c y
    rw [if_neg (nI_ge y (by omega)), mj_ck_t e1, e2]
    by_cases q : L p = 32
    · rw [if_pos q, if_pos q, if_neg n10]
    · rw [if_neg q, if_neg q, if_pos rfl]
  · rw [if_pos (nI_le y (by omega)), if_pos rfl, if_neg (show ¬ L p = 32 by rw [hL.2 p y]; decide)]
theorem tail9 {m : mj_m} {t T : aT} {u : Nat → Int32} {s : Nat} {L : Nat → Int32} {n p : Nat} (hG : Good t) (hL : LL L n) (hs : s < 8) (c : C9 m s L n p) (hp : p ≤ n) (hr : t 13 1 < 10) (gT : Good T) (gT1 : ∀ fr, fr ≤ t 13 0 → Good (mj_up T 5 (t 13 1) fr)) (g : Rep (mg m) T u) (x5 : T 5 (t 13 1) = 0) (x6 : T 6 (t 13 1) = 0) (e0 : T 13 0 = t 13 0) {N : Nat} (hN : 100 ≤ N) :
    IT9 m u s L n (bnS (moP L t p) (fun r => .inr (mj_up (mj_up T 5 (t 13 1) r.1) 6 (t 13 1) r.2.1, r.2.2))) (mj_lp N (f_X9_item_396 N (nI (t 13 1))) (0, 1, 0, m)) := by
  have hn := hL.1
  have gs := GS hG
  obtain ⟨M, hM⟩ : ∃ k, N = k + 3 := ⟨N - 3, by omega⟩
  have hd5 : dm 5 (t 13 1) := ⟨by omega, by rw [if_pos (by omega)]; exact hr⟩
  have hd6 : dm 6 (t 13 1) := ⟨by omega, by rw [if_pos (by omega)]; exact hr⟩
  have un : ∀ k, mj_lp (k + 1) (f_X9_item_396 N (nI (t 13 1))) = f_X9_item_396 N (nI (t 13 1)) (mj_lp k (f_X9_item_396 N (nI (t 13 1)))) := fun k => rfl
  have e3 : mj_lp N (f_X9_item_396 N (nI (t 13 1))) = f_X9_item_396 N (nI (t 13 1)) (mj_lp (M + 2) (f_X9_item_396 N (nI (t 13 1)))) := (congrArg (fun z => mj_lp z (f_X9_item_396 N (nI (t 13 1)))) hM).trans (un (M + 2))
  have wb6 : ∀ x, 6 ≤ x → x ≤ 7 → wb x = 1 := fun x h1 _ => by unfold wb; rw [if_neg (by omega)]
  have wb7 : ∀ x, 7 ≤ x → x ≤ 7 → wb x = 1 := fun x h1 _ => by unfold wb; rw [if_neg (by omega)]
  -- the next: a number behind the word; the loop is through
  have nxt : ∀ (m' : mj_m) (q fr k : Nat) (v8 : Int32) (κ : Int32 × Int32 × Int32 × mj_m → Option (Int32 × mj_m)), C9 m' s L n (q + 1) → L q = 32 → q + 1 ≤ n → Rep (mg m') (mj_up T 5 (t 13 1) fr) u → fr ≤ t 13 0 → Rg m m' → (∀ m2, κ (v8, 0, nI (k + 1), m2) = some (1, m2)) →
      IT9 m u s L n (bnS (bnS (nbB L q 0 (t 13 1)) (fun x => .inr (fr, x.1 + 1, x.2))) (fun r : Nat × Nat × Nat => .inr (mj_up (mj_up T 5 (t 13 1) r.1) 6 (t 13 1) r.2.1, r.2.2))) (f_X9_item_503 N κ (nI (t 13 1)) v8 1 (nI k) (nI 7) 0 (nI (t 13 1) - 1) m') := by
    intro m' q fr k v8 κ h1 h2 h3 h4 h5 h6 h7
    unfold f_X9_item_503 f_X9_item_550
    rw [bP h2]
    rcases num9a hL hs h1 h3 (lo := 0) (top := t 13 1) (by decide) (by omega) (v1 := 0) (v2 := nI (t 13 1) - 1) rfl rfl (N := N) (by omega) with ⟨y, a1, m1, a2, a3, a4⟩ | ⟨a, a1, a9, m1, a2, a3, a4, a5⟩
    · rw [a2, bind_some', if_pos rfl]
      exact Or.inl ⟨y, by rw [bnS_l (bnS_l a1)], m1, rfl, a3, Rg_t h6 (Re_g a4)⟩
    · rw [a2, bind_some', if_neg n10, if_neg (show ¬ nI 7 = 6 by decide), mj_ck_t (bb_107 hr), nI_clamp (by omega), a3, mw_eq, mw_eq, ← nI_succ, h7, bnS_r a1]
      have g1 := Re_m (gT1 fr h5) h4 a5
      have rr : Rg m (mj_wI m1 107 (t 13 1) (nI a.1)) := Rg_w (Rg_t h6 (Re_g a5)) (by omega)
      exact Or.inr ⟨_, rfl, _, rfl, C9_g c rr (by rw [wI_n (by omega)]; exact a4.2.1), Rep_up g1 (gT1 fr h5) (by decide) (gA_w (ad := mA) (fun _ _ _ _ => mA_inj) hd6 rfl) (by rw [if_pos (by omega), nI_pred]), rr⟩
  rw [e3, show (0 : Int32) = nI 0 from rfl, g396 hL hs c hp (by decide)]
  unfold moP
  by_cases q : L p = 32
  · have pn : p < n := by
      rcases Nat.lt_or_ge p n with y | y
      · exact y
      · rw [hL.2 _ y] at q; exact absurd q (by decide)
    rw [if_pos q, if_pos q, if_pos (show nI 0 = 0 from rfl)]
    unfold f_X9_item_466
    rcases word9 hL hs c hp (fm := 6) (to := 7) (b := 1) (by decide) (by decide) wb6 (by decide) (Or.inr q) (v1 := 6) (v2 := 7) rfl rfl (N := N) (by omega) with ⟨y, b1, b2⟩ | ⟨x, b1, bx1, bx2, ⟨b3, b4⟩ | ⟨b3, b4⟩⟩
    · rw [b2, bind_some', if_pos rfl]
      exact Or.inl ⟨y, bnS_l (bnS_l b1), _, rfl, wI_e, Rg_w (Rg_r m) (by omega)⟩
    · have fx := (rwN_r _ _ _ b1).2.2
      have fi := fitF_in hL (w := x) (by omega) (show p + 1 ≤ n by omega)
      rw [fx] at fi
      have fi2 : p + 1 + wl x < n := by
        rcases Nat.lt_or_ge (p + 1 + wl x) n with y | y
        · exact y
        · rw [hL.2 _ y] at b3; exact absurd b3 (by decide)
      rw [b4, bind_some', if_neg (nI_neg _ (by omega)), bnS_r b1]
      have r1 : Rg m (mj_wI m 95 34 (nI (p + 1 + wl x + 1))) := Rg_w (Rg_r m) (by omega)
      have c1 := C9_g c r1 wI_e
      have g1 : Rep (mg (mj_wI m 95 34 (nI (p + 1 + wl x + 1)))) T u := Re_m gT g (Re_w (Re_r m) (by omega))
      generalize mj_wI m 95 34 (nI (p + 1 + wl x + 1)) = m1 at r1 c1 g1
      rcases (by omega : x = 6 ∨ x = 7) with rfl | rfl
      · dsimp only
        rw [if_pos (show nI 6 = 6 from rfl), if_pos rfl, bP b3]
        unfold f_X9_item_503 f_X9_item_550
        rcases num9a hL hs c1 (by omega) (lo := 0) (top := t 13 0) (by decide) (by omega) (v1 := 0) (v2 := m1.1 95 0 - 1) rfl (by rw [y_streets g1, e0]) (N := N) (by omega) with ⟨y, a1, m2, a2, a3, a4⟩ | ⟨a, a1, a9, m2, a2, a3, a4, a5⟩
        · rw [a2, bind_some', if_pos rfl]
          exact Or.inl ⟨y, bnS_l (bnS_l a1), m2, rfl, a3, Rg_t r1 (Re_g a4)⟩
        · have ca := nbP_ok hL (by omega) a1
          rw [a2, bind_some', if_neg n10, if_pos (show nI 6 = 6 from rfl), mj_ck_t (bb_106 hr), nI_clamp (by omega), a3, mw_eq, mw_eq, bnS_r a1]
          have g2 := Re_m gT g1 a5
          have r3 : Rg m (mj_wI m2 106 (t 13 1) (nI a.1)) := Rg_w (Rg_t r1 (Re_g a5)) (by omega)
          have c3 := C9_g c r3 (show (mj_wI m2 106 (t 13 1) (nI a.1)).1 95 34 = nI a.2 by rw [wI_n (by omega)]; exact a4.2.1)
          have g3 : Rep (mg (mj_wI m2 106 (t 13 1) (nI a.1))) (mj_up T 5 (t 13 1) (a.1 + 1)) u := Rep_up g2 gT (by decide) (gA_w (ad := mA) (fun _ _ _ _ => mA_inj) hd5 rfl) (by rw [if_pos (by omega), nI_pred])
          generalize mj_wI m2 106 (t 13 1) (nI a.1) = m3 at r3 c3 g3
          have s7 : mj_lp (M + 2) (f_X9_item_396 N (nI (t 13 1))) (1, 1, nI 0 + 1, m3) = f_X9_item_396 N (nI (t 13 1)) (mj_lp (M + 1) (f_X9_item_396 N (nI (t 13 1)))) (1, 1, nI 1, m3) := rfl
          rw [s7, g396 hL hs c3 ca.2.2.2.2 (by decide)]
          have u6 : mj_up (mj_up T 5 (t 13 1) (a.1 + 1)) 6 (t 13 1) 0 = mj_up T 5 (t 13 1) (a.1 + 1) := up0 (by rw [up_at, if_neg (by omega)]; exact x6)
          unfold mo2
          by_cases q2 : L a.2 = 32
          · have an : a.2 < n := by
              rcases Nat.lt_or_ge a.2 n with y | y
              · exact y
              · rw [hL.2 _ y] at q2; exact absurd q2 (by decide)
            rw [if_pos q2, if_pos q2, if_neg n10]
            unfold f_X9_item_466
            rcases word9 hL hs c3 ca.2.2.2.2 (fm := 7) (to := 7) (b := 1) (by decide) (by decide) wb7 (by decide) (Or.inr q2) (v1 := 7) (v2 := 7) rfl rfl (N := N) (by omega) with ⟨y, d1, d2⟩ | ⟨x, d1, dx1, dx2, ⟨d3, d4⟩ | ⟨d3, d4⟩⟩
            · rw [d2, bind_some', if_pos rfl]
              exact Or.inl ⟨y, bnS_l (bnS_l d1), _, rfl, wI_e, Rg_w r3 (by omega)⟩
            · have fx := (rwN_r _ _ _ d1).2.2
              have fi := fitF_in hL (w := x) (by omega) (show a.2 + 1 ≤ n by omega)
              rw [fx] at fi
              have fi2 : a.2 + 1 + wl x < n := by
                rcases Nat.lt_or_ge (a.2 + 1 + wl x) n with y | y
                · exact y
                · rw [hL.2 _ y] at d3; exact absurd d3 (by decide)
              have x7 : x = 7 := by omega
              subst x7
              rw [d4, bind_some', if_neg (nI_neg _ (by omega)), bnS_r d1, if_neg (show ¬ nI 7 = 6 by decide)]
              have r4 : Rg m (mj_wI m3 95 34 (nI (a.2 + 1 + wl 7 + 1))) := Rg_w r3 (by omega)
              exact nxt _ (a.2 + 1 + wl 7) (a.1 + 1) 1 1 _ (C9_g c r4 wI_e) d3 fi2 (Re_m (gT1 _ (by omega)) g3 (Re_w (Re_r m3) (by omega))) (by omega) r4 (fun m5 => by
                rw [un M]
                unfold f_X9_item_396
                dsimp only
                rw [if_pos (show (2 : Int32) ≤ nI (1 + 1) by decide)])
            · rw [d4, bind_some', if_pos rfl]
              exact Or.inl ⟨_, by rw [bnS_r d1, bN d3]; rfl, _, rfl, wI_e, Rg_w r3 (by omega)⟩
          · rw [if_neg q2, if_neg q2]
            exact Or.inr ⟨_, rfl, m3, rfl, c3, by show Rep (mg m3) (mj_up (mj_up T 5 (t 13 1) (a.1 + 1)) 6 (t 13 1) 0) u; rw [u6]; exact g3, r3⟩
      · dsimp only
        rw [if_neg (show ¬ nI 7 = 6 by decide), if_neg (show ¬ 7 = 6 by decide)]
        exact nxt m1 (p + 1 + wl 7) 0 0 0 _ c1 b3 fi2 (by rw [up0 x5]; exact g1) (Nat.zero_le _) r1 (fun m5 => by
          rw [un (M + 1)]
          unfold f_X9_item_396
          dsimp only
          rw [if_neg (show ¬ (2 : Int32) ≤ nI (0 + 1) by decide), if_pos rfl])
    · have x67 : x = 6 ∨ x = 7 := by omega
      rw [b4, bind_some', if_pos rfl, bnS_r b1]
      refine Or.inl ⟨p + 1 + wl x, ?_, _, rfl, wI_e, Rg_w (Rg_r m) (by omega)⟩
      by_cases y : x = 6
      · rw [if_pos y, bN b3]; rfl
      · rw [if_neg y, bN b3]; rfl
  · rw [if_neg q, if_neg q]
    exact Or.inr ⟨_, rfl, m, rfl, c, by show Rep (mg m) (mj_up (mj_up T 5 (t 13 1) 0) 6 (t 13 1) 0) u; rw [up0 x5, up0 x6]; exact g, Rg_r m⟩
