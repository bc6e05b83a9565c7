/-! A TOWN FROM LETTERS: the class reads a house, an item -/
theorem hnum8 {m : mj_m} {t : aT} {u : Nat → Int32} {L : Nat → Int32} {n p i : Nat} (hG : Good t) (hL : LL L n) (d : D8 m t u L n p) (hp : p ≤ n) (hi : i < 5) {lo top : Nat} (hlo : lo < 1000) (ht : top < 1001) {v1 v2 : Int32} (h1 : v1 = nI lo) (h2 : v2 = nI top - 1) {N : Nat} (hN : 20 ≤ N) (K : Int32 × mj_m → Option (Int32 × mj_m)) :
    (∃ q, nbB L p lo top = .inl q ∧ ∃ m', f_X5_readHouse_45 N K (nI i) v2 (nI i) v1 m = some (0, m') ∧ m'.1 55 7 = nI q ∧ Rf m m') ∨
    ∃ v, nbB L p lo top = .inr v ∧ ∃ m', f_X5_readHouse_45 N K (nI i) v2 (nI i) v1 m = K (nI (i + 1), m') ∧ D8 m' t u L n v.2 ∧ m'.1 74 i = nI v.1 ∧ (∀ j, j ≠ i → m'.1 74 j = m.1 74 j) ∧ Rf m m' := by
  unfold f_X5_readHouse_45
  rcases num8D hG hL d hp hlo ht h1 h2 hN with ⟨q, a1, m1, a2, a3, a4⟩ | ⟨a, a1, m1, a2, a3, a4, a5⟩
  · rw [a2, bind_some', mj_ck_t (bb_74 hi), nI_clamp (by omega), mw_eq, mj_ck_t (bb_74 hi), wI_e, if_pos rfl]
    exact Or.inl ⟨q, a1, _, rfl, by rw [wI_n (by omega)]; exact a3, Rf_w a4 (by omega)⟩
  · have c1 := nbB_ok hL a1
    rw [a2, bind_some', mj_ck_t (bb_74 hi), nI_clamp (by omega), mw_eq, mj_ck_t (bb_74 hi), wI_e, if_neg (nI_neg _ (by omega)), mw_eq, ← nI_succ]
    refine Or.inr ⟨a, a1, _, rfl, ⟨C8_w a3.1 (by omega), Rep_same a3.2.1 hG (fun f j hd => gA_n ?_), by rw [wI_n (by omega)]; exact a3.2.2.1, RD_wX a3.2.2.2 (by omega)⟩, wI_e, fun j hj => by rw [wI_n (by omega)]; exact a5.1 74 j (by omega), Rf_w (Rd_f a5) (by omega)⟩
    have := cA_rng (b := 56) (d := 63) rfl hd
    omega
theorem h56w_n {m : mj_m} {n : Nat} {c w d e k : Int32} {A K : Nat} (q : A < 56 ∨ 73 ≤ A) (hn : n < 10) : (h56w m n c w d e k).1 A K = m.1 A K := by
  unfold h56w
  rw [wI_n, wI_n, wI_n, wI_n, wI_n, wI_n, wI_n, wI_n, wI_n, wI_n] <;> omega
theorem C8_e {m m' : mj_m} {L : Nat → Int32} {n p : Nat} (c : C8 m L n p) (e : ∀ a k, (a = 55 ∧ k < 6) ∨ a = 73 → m'.1 a k = m.1 a k) : C8 m' L n p := ⟨by rw [e 55 4 (by omega)]; exact c.1, by rw [e 55 5 (by omega)]; exact c.2.1, fun i hi => by rw [e 73 i (by omega)]; exact c.2.2 i hi⟩
theorem done8 {m : mj_m} {t : aT} {u : Nat → Int32} {L : Nat → Int32} {n p c w e k y fr nx : Nat} (hG : Good t) (d : D8 m t u L n p) (hr : t 13 1 < 10) (b0 : c < 8) (b1 : w ≤ 9) (b2 : e ≤ 99) (b3 : k ≤ 99) (b4 : 1 ≤ y ∧ y ≤ 99) (b5 : fr ≤ t 13 0) (b6 : nx ≤ t 13 1) (v0 : m.1 74 0 = nI c) (v1 : m.1 74 1 = nI w) (v2 : m.1 74 2 = nI e) (v3 : m.1 74 3 = nI k) (v4 : m.1 74 4 = nI y) {x1 x2 : Int32} (h1 : x1 = nI fr - 1) (h2 : x2 = nI nx - 1) (N : Nat) :
    ∃ m', f_X5_readHouse_140 N x1 x2 m = some (1, m') ∧ D8 m' (houseT t (xH c w e k y) fr nx) u L n p ∧ Rf m m' := by
  obtain ⟨gg0, gg1, gg2⟩ := houseG hG hr b0 b1 b2 b3 b4 b5 b6
  have g1 := gd_house hG d.2.1 hr (xH c w e k y) rfl rfl rfl rfl
  have hd5 : dm 5 (t 13 1) := ⟨by omega, by rw [if_pos (by omega)]; exact hr⟩
  have hd6 : dm 6 (t 13 1) := ⟨by omega, by rw [if_pos (by omega)]; exact hr⟩
  have g2 : Rep (cg (mj_wI (h56w m (t 13 1) (nI c) (nI w) (nI e) (nI k) (nI y)) (63 + t 13 1) 5 x1) 56 63) (mj_up (grow t 0 8 1 (xH c w e k y)) 5 (t 13 1) fr) u :=
    Rep_up g1 gg0 (by decide) (gA_w (ad := cA 56 63) (fun _ _ _ _ => cA_inj rfl) hd5 rfl) (by rw [h1]; rfl)
  have g3 : Rep (cg (mj_wI (mj_wI (h56w m (t 13 1) (nI c) (nI w) (nI e) (nI k) (nI y)) (63 + t 13 1) 5 x1) (63 + t 13 1) 6 x2) 56 63) (houseT t (xH c w e k y) fr nx) u :=
    Rep_up g2 gg1 (by decide) (gA_w (ad := cA 56 63) (fun _ _ _ _ => cA_inj rfl) hd6 rfl) (by rw [h2]; rfl)
  have isH : f_X7_isHouse_56 N (nI (t 13 1)) (h56w m (t 13 1) (nI c) (nI w) (nI e) (nI k) (nI y)) = some 1 := by
    unfold f_X7_isHouse_56
    rw [if_neg (nI_pos (by omega)), show (h56w m (t 13 1) (nI c) (nI w) (nI e) (nI k) (nI y)).1 56 7 = nI (t 13 1 + 1) from wI_e, if_neg (nI_ge (by omega) (by omega)), if_neg (show ¬ 10 ≤ nI (t 13 1) from (nI_ge hr (by omega) : ¬ nI 10 ≤ nI (t 13 1)))]
  refine ⟨_, ?_, ⟨?_, g3, ?_, ?_⟩, ?_⟩
  · unfold f_X5_readHouse_140
    rw [if_pos d.2.2.1, mj_ck_t (by decide), mj_ck_t (by decide), mj_ck_t (by decide), mj_ck_t (by decide), mj_ck_t (by decide), show (0 : Int32).toNatClampNeg = 0 from rfl, show (1 : Int32).toNatClampNeg = 1 from rfl, show (2 : Int32).toNatClampNeg = 2 from rfl, show (3 : Int32).toNatClampNeg = 3 from rfl, show (4 : Int32).toNatClampNeg = 4 from rfl, v0, v1, v2, v3, v4, a56_house (z_houses d.2.1) hr, bind_some', isH, bind_some', if_neg (by decide), mj_ck_t (bb_59 hr), nI_clamp (by omega), mw_eq, mw_eq]
  · exact C8_e d.1 (fun a k q => by rw [wI_n (by omega), wI_n (by omega)]; exact h56w_n (by omega) hr)
  · rw [wI_n (by omega), wI_n (by omega), h56w_n (by omega) hr]; exact d.2.2.1
  · unfold h56w
    exact RD_wX (RD_wX (RD_wX (RD_wX (RD_wX (RD_wX (RD_wX (RD_wX (RD_wX (RD_wX (RD_wX (RD_wX d.2.2.2 (by omega)) (by omega)) (by omega)) (by omega)) (by omega)) (by omega)) (by omega)) (fun _ _ _ => Or.inl rfl)) (by omega)) (by omega)) (by omega)) (by omega)
  · exact Rf_w (Rf_w ⟨fun a k q => h56w_n (by omega) hr, rfl⟩ (by omega)) (by omega)
theorem more8 {m : mj_m} {t : aT} {u : Nat → Int32} {L : Nat → Int32} {n p fm : Nat} (hG : Good t) (hL : LL L n) (d : D8 m t u L n p) (hp : p ≤ n) (hf : fm ≤ 7) {v : Int32} (hv : v = nI fm) {N : Nat} (hN : 20 ≤ N) :
    (L p ≠ 32 ∧ f_X5_readMore N v m = some (-1, m)) ∨ (L p = 32 ∧ ((∃ q, rwN L (p + 1) (8 - fm) fm 0 = .inl q ∧ q ≤ 1000 ∧ ∃ m', f_X5_readMore N v m = some (-1, m') ∧ m'.1 55 7 = nI q ∧ Rf m m') ∨
      ∃ w, rwN L (p + 1) (8 - fm) fm 0 = .inr w ∧ fm ≤ w ∧ w ≤ 7 ∧ ∃ m', f_X5_readMore N v m = some (nI w, m') ∧ D8 m' t u L n (p + 1 + wl w) ∧ p + 1 + wl w ≤ n ∧ Rd m m')) := by
  have hn := hL.1
  unfold f_X5_readMore
  rw [d.1.2.1, letter8 hL d.1 (by omega), bind_some']
  by_cases q : L p = 32
  · have pn : p < n := by
      rcases Nat.lt_or_ge p n with y | y
      · exact y
      · rw [hL.2 _ y] at q; exact absurd q (by decide)
    rw [if_pos q, mw_eq, ← nI_succ]
    refine Or.inr ⟨q, ?_⟩
    unfold f_X5_readWord
    have c1 := C8_5 (q := p + 1) d.1
    rcases wordL8 hL c1 pn (to := 7) (by omega) hN (8 - fm) fm 0 N (by omega) (by omega) (by omega) with ⟨y, b1, b2⟩ | ⟨w, b1, b2, b3, b4, b5⟩
    · have bb := rwN_in _ _ _ (by omega) (by omega) b1
      refine Or.inl ⟨y, b1, by omega, mj_wI (mj_wI m 55 5 (nI (p + 1))) 55 7 (nI y), ?_, wI_e, Rf_w (Rf_w (Rf_r m) (by omega)) (by omega)⟩
      rw [hv]
      exact congrArg (fun z => z.bind (fun r4 : Int32 × mj_m => some (r4.1, r4.2))) b2
    · have fi := fitF_in hL (w := w) (by omega) pn
      rw [b4] at fi
      rw [wI_wI] at b5
      refine Or.inr ⟨w, b1, b2, b3, mj_wI m 55 5 (nI (p + 1 + wl w)), ?_, D8_R hG d (C8_5 d.1) (by rw [wI_n (by omega)]) (Rd_w (Rd_r m) (by omega)), fi, Rd_w (Rd_r m) (by omega)⟩
      rw [hv]
      exact congrArg (fun z => z.bind (fun r4 : Int32 × mj_m => some (r4.1, r4.2))) b5
  · rw [if_neg q]
    exact Or.inl ⟨q, rfl⟩
theorem no140 {m : mj_m} {q : Nat} (h : m.1 55 7 = nI q) (hq : q ≤ 1000) (N : Nat) (v1 v2 : Int32) : f_X5_readHouse_140 N v1 v2 m = some (0, m) := by
  unfold f_X5_readHouse_140
  rw [h, if_neg (nI_neg _ (by omega))]
/-- what is behind a house's five numbers -/
theorem tail8 {m : mj_m} {t : aT} {u : Nat → Int32} {L : Nat → Int32} {n p : Nat} (hG : Good t) (hL : LL L n) (d : D8 m t u L n p) (hp : p ≤ n) {x : Nat → Nat} {N : Nat} (hN : 20 ≤ N)
    (fin : ∀ (m' : mj_m) (p' fr nx : Nat) (x1 x2 : Int32), D8 m' t u L n p' → (∀ j, m'.1 74 j = m.1 74 j) → fr ≤ t 13 0 → nx ≤ t 13 1 → x1 = nI fr - 1 → x2 = nI nx - 1 → ∃ m'', f_X5_readHouse_140 N x1 x2 m' = some (1, m'') ∧ D8 m'' (houseT t x fr nx) u L n p' ∧ Rf m' m'') :
    IT8 m u L n (bnS (moP L t p) (fun r => .inr (houseT t x r.1 r.2.1, r.2.2))) ((f_X5_readMore N 6 m).bind (fun r2 => if r2.1 = 6 then ((f_X5_readNumber N 0 ((r2.2.1 56 6) - 1) r2.2).bind (fun r4 => if (r4.2.1 55 7) = (-1 : Int32) then ((f_X5_readMore N 7 r4.2).bind (fun r6 => f_X5_readHouse_118 N r4.1 (-1 : Int32) r6.1 r6.2)) else (f_X5_readHouse_118 N r4.1 (-1 : Int32) (-1 : Int32) r4.2))) else f_X5_readHouse_119 N (-1 : Int32) (-1 : Int32) r2.1 r2.2)) := by
  have hn := hL.1
  have gs := GS hG
  have gh := GH hG
  have bad : ∀ (m' : mj_m) (q : Nat) (v1 v2 : Int32) (z : Nat ⊕ (aT × Nat)), z = .inl q → m'.1 55 7 = nI q → q ≤ 1000 → Rf m m' → IT8 m u L n z (f_X5_readHouse_140 N v1 v2 m') := fun m' q v1 v2 z hz h1 h2 h3 => by
    rw [no140 h1 h2]; exact Or.inl ⟨q, hz, m', rfl, h1, h3⟩
  have good : ∀ (m' : mj_m) (p' fr nx : Nat) (x1 x2 : Int32) (z : Nat ⊕ (aT × Nat)), z = .inr (houseT t x fr nx, p') → D8 m' t u L n p' → (∀ j, m'.1 74 j = m.1 74 j) → fr ≤ t 13 0 → nx ≤ t 13 1 → x1 = nI fr - 1 → x2 = nI nx - 1 → Rf m m' → IT8 m u L n z (f_X5_readHouse_140 N x1 x2 m') := fun m' p' fr nx x1 x2 z hz h1 h2 h3 h4 h5 h6 h7 => by
    obtain ⟨m'', e1, e2, e3⟩ := fin m' p' fr nx x1 x2 h1 h2 h3 h4 h5 h6
    rw [e1]; exact Or.inr ⟨_, hz, m'', rfl, e2, Rf_t h7 e3⟩
  have nxt : ∀ (m' : mj_m) (p' fr : Nat) (x1 : Int32) (w : Nat), D8 m' t u L n p' → p' ≤ n → Rd m m' → w = 7 → fr ≤ t 13 0 → x1 = nI fr - 1 → IT8 m u L n (bnS (bnS (nbB L p' 0 (t 13 1)) (fun x => .inr (fr, x.1 + 1, x.2))) (fun r => .inr (houseT t x r.1 r.2.1, r.2.2))) (f_X5_readHouse_119 N x1 (-1) (nI w) m') := by
    intro m' p' fr x1 w h1 h2 h3 h4 h5 h6
    subst h4
    unfold f_X5_readHouse_119
    rw [if_pos (show nI 7 = 7 from rfl)]
    rcases num8D hG hL h1 h2 (lo := 0) (top := t 13 1) (by decide) (by omega) (v1 := 0) (v2 := m'.1 56 7 - 1) rfl (by rw [z_houses h1.2.1]) hN with ⟨q, a1, m1, a2, a3, a4⟩ | ⟨a, a1, m1, a2, a3, a4, a5⟩
    · have := nbB_in a1
      rw [a2, bind_some']
      exact bad m1 q _ _ _ (by rw [bnS_l (bnS_l a1)]) a3 (by omega) (Rf_t (Rd_f h3) a4)
    · have c1 := nbB_ok hL a1
      rw [a2, bind_some']
      exact good m1 a.2 fr (a.1 + 1) _ _ _ (by rw [bnS_r a1]; rfl) a3 (fun j => (a5.1 74 j (by omega)).trans (h3.1 74 j (by omega))) h5 (by omega) h6 (by rw [nI_pred]) (Rd_f (Rd_t h3 a5))
  unfold moP
  rcases more8 hG hL d hp (fm := 6) (by omega) (v := 6) rfl hN with ⟨q, a1⟩ | ⟨q, ⟨y, b1, b0, m1, b2, b3, b4⟩ | ⟨w, b1, bw, bw2, m1, b2, b3, b5, b4⟩⟩
  · rw [if_neg q, a1, bind_some', if_neg (show ¬ (-1 : Int32) = 6 by decide)]
    unfold f_X5_readHouse_119
    rw [if_neg (show ¬ (-1 : Int32) = 7 by decide)]
    exact good m p 0 0 _ _ _ rfl d (fun _ => rfl) (Nat.zero_le _) (Nat.zero_le _) (by decide) (by decide) (Rf_r m)
  · rw [if_pos q, b2, bind_some', if_neg (show ¬ (-1 : Int32) = 6 by decide)]
    unfold f_X5_readHouse_119
    rw [if_neg (show ¬ (-1 : Int32) = 7 by decide)]
    exact bad m1 y _ _ _ (bnS_l (bnS_l b1)) b3 b0 b4
  · rw [if_pos q, b2, bind_some', bnS_r b1]
    rcases (by omega : w = 6 ∨ w = 7) with rfl | rfl
    · rw [if_pos rfl, if_pos (show nI 6 = 6 from rfl)]
      rcases num8D hG hL b3 b5 (lo := 0) (top := t 13 0) (by decide) (by omega) (v1 := 0) (v2 := m1.1 56 6 - 1) rfl (by rw [z_streets b3.2.1]) hN with ⟨y, a1, m2, a2, a3, a4⟩ | ⟨a, a1, m2, a2, a3, a4, a5⟩
      · have := nbB_in a1
        rw [a2, bind_some', a3, if_neg (nI_neg _ (by omega))]
        unfold f_X5_readHouse_118 f_X5_readHouse_119
        rw [if_neg (by decide)]
        exact bad m2 y _ _ _ (bnS_l (bnS_l a1)) a3 (by omega) (Rf_t (Rd_f b4) a4)
      · have c1 := nbB_ok hL a1
        rw [a2, bind_some', a3.2.2.1, if_pos rfl, bnS_r a1]
        have r2 := Rd_t b4 a5
        unfold mo2 f_X5_readHouse_118
        rcases more8 hG hL a3 (by omega) (fm := 7) (by omega) (v := 7) rfl hN with ⟨q', e1⟩ | ⟨q', ⟨y, e1, e0, m3, e2, e3, e4⟩ | ⟨w, e1, ew, ew2, m3, e2, e3, e5, e4⟩⟩
        · rw [if_neg q', e1, bind_some']
          unfold f_X5_readHouse_119
          rw [if_neg (show ¬ (-1 : Int32) = 7 by decide)]
          exact good m2 a.2 (a.1 + 1) 0 _ _ _ rfl a3 (fun j => r2.1 74 j (by omega)) (by omega) (Nat.zero_le _) (by rw [nI_pred]) (by decide) (Rd_f r2)
        · rw [if_pos q', e2, bind_some']
          unfold f_X5_readHouse_119
          rw [if_neg (show ¬ (-1 : Int32) = 7 by decide)]
          exact bad m3 y _ _ _ (bnS_l (bnS_l e1)) e3 e0 (Rf_t (Rd_f r2) e4)
        · rw [if_pos q', e2, bind_some', bnS_r e1]
          exact nxt m3 _ (a.1 + 1) _ w e3 e5 (Rd_t r2 e4) (by omega) (by omega) (by rw [nI_pred])
    · rw [if_neg (by decide), if_neg (show ¬ nI 7 = 6 by decide)]
      exact nxt m1 _ 0 _ 7 b3 b5 b4 rfl (Nat.zero_le _) (by decide)
theorem house8 {m : mj_m} {t : aT} {u : Nat → Int32} {L : Nat → Int32} {n p : Nat} (hG : Good t) (hL : LL L n) (d : D8 m t u L n p) (hp : p ≤ n) (hr : t 13 1 < 10) {N : Nat} (hN : 20 ≤ N) : IT8 m u L n (hsP L t p) (f_X5_readHouse N m) := by
  obtain ⟨M, rfl⟩ : ∃ k, N = k + 6 := ⟨N - 6, by omega⟩
  generalize hNN : M + 6 = NN at hN
  unfold f_X5_readHouse hsP
  show IT8 m u L n _ (mj_lp NN (f_X5_readHouse_2 NN) (nI 0, m))
  have un : ∀ k, mj_lp (k + 1) (f_X5_readHouse_2 NN) = f_X5_readHouse_2 NN (mj_lp k (f_X5_readHouse_2 NN)) := fun k => rfl
  have e0 : mj_lp NN (f_X5_readHouse_2 NN) = f_X5_readHouse_2 NN (mj_lp (M + 5) (f_X5_readHouse_2 NN)) := (congrArg (fun z => mj_lp z (f_X5_readHouse_2 NN)) hNN.symm).trans (un (M + 5))
  have s0 : ∀ K m', f_X5_readHouse_2 NN K (nI 0, m') = f_X5_readHouse_45 NN K (nI 0) 7 (nI 0) 0 m' := fun K m' => by
    unfold f_X5_readHouse_2 f_X5_readHouse_28
    dsimp only
    rw [if_neg (show ¬ (5 : Int32) ≤ nI 0 by decide), if_pos (show nI 0 = 0 from rfl), if_neg (show ¬ nI 0 = 4 by decide)]
  have s1 : ∀ K m', f_X5_readHouse_2 NN K (nI 1, m') = f_X5_readHouse_45 NN K (nI 1) 9 (nI 1) 0 m' := fun K m' => by
    unfold f_X5_readHouse_2 f_X5_readHouse_28
    dsimp only
    rw [if_neg (show ¬ (5 : Int32) ≤ nI 1 by decide), if_neg (show ¬ nI 1 = 0 by decide), if_pos (show nI 1 = 1 from rfl), if_neg (show ¬ nI 1 = 4 by decide)]
  have s2 : ∀ K m', f_X5_readHouse_2 NN K (nI 2, m') = f_X5_readHouse_45 NN K (nI 2) 99 (nI 2) 0 m' := fun K m' => by
    unfold f_X5_readHouse_2 f_X5_readHouse_28
    dsimp only
    rw [if_neg (show ¬ (5 : Int32) ≤ nI 2 by decide), if_neg (show ¬ nI 2 = 0 by decide), if_neg (show ¬ nI 2 = 1 by decide), if_neg (show ¬ nI 2 = 4 by decide)]
  have s3 : ∀ K m', f_X5_readHouse_2 NN K (nI 3, m') = f_X5_readHouse_45 NN K (nI 3) 99 (nI 3) 0 m' := fun K m' => by
    unfold f_X5_readHouse_2 f_X5_readHouse_28
    dsimp only
    rw [if_neg (show ¬ (5 : Int32) ≤ nI 3 by decide), if_neg (show ¬ nI 3 = 0 by decide), if_neg (show ¬ nI 3 = 1 by decide), if_neg (show ¬ nI 3 = 4 by decide)]
  have s4 : ∀ K m', f_X5_readHouse_2 NN K (nI 4, m') = f_X5_readHouse_45 NN K (nI 4) 99 (nI 4) 1 m' := fun K m' => by
    unfold f_X5_readHouse_2 f_X5_readHouse_28
    dsimp only
    rw [if_neg (show ¬ (5 : Int32) ≤ nI 4 by decide), if_neg (show ¬ nI 4 = 0 by decide), if_neg (show ¬ nI 4 = 1 by decide), if_pos (show nI 4 = 4 from rfl)]
  rw [e0, s0]
  rcases hnum8 hG hL d hp (i := 0) (by decide) (lo := 0) (top := 8) (by decide) (by decide) (v1 := 0) (v2 := 7) rfl (by decide) hN (mj_lp (M + 5) (f_X5_readHouse_2 NN)) with ⟨q, a1, m1, a2, a3, a4⟩ | ⟨a, a1, m1, a2, a3, a4, a5, a6⟩
  · rw [a2]; exact Or.inl ⟨q, bnS_l a1, m1, rfl, a3, a4⟩
  have ca := nbB_ok hL a1
  rw [a2, bnS_r a1, un (M + 4), s1]
  rcases hnum8 hG hL a3 ca.2.2.2.2 (i := 1) (by decide) (lo := 0) (top := 10) (by decide) (by decide) (v1 := 0) (v2 := 9) rfl (by decide) hN (mj_lp (M + 4) (f_X5_readHouse_2 NN)) with ⟨q, b1, m2, b2, b3, b4⟩ | ⟨b, b1, m2, b2, b3, b4, b5, b6⟩
  · rw [b2]; exact Or.inl ⟨q, bnS_l b1, m2, rfl, b3, Rf_t a6 b4⟩
  have cb := nbB_ok hL b1
  rw [b2, bnS_r b1, un (M + 3), s2]
  rcases hnum8 hG hL b3 cb.2.2.2.2 (i := 2) (by decide) (lo := 0) (top := 100) (by decide) (by decide) (v1 := 0) (v2 := 99) rfl (by decide) hN (mj_lp (M + 3) (f_X5_readHouse_2 NN)) with ⟨q, c1, m3, c2, c3, c4⟩ | ⟨c, c1, m3, c2, c3, c4, c5, c6⟩
  · rw [c2]; exact Or.inl ⟨q, bnS_l c1, m3, rfl, c3, Rf_t (Rf_t a6 b6) c4⟩
  have cc := nbB_ok hL c1
  rw [c2, bnS_r c1, un (M + 2), s3]
  rcases hnum8 hG hL c3 cc.2.2.2.2 (i := 3) (by decide) (lo := 0) (top := 100) (by decide) (by decide) (v1 := 0) (v2 := 99) rfl (by decide) hN (mj_lp (M + 2) (f_X5_readHouse_2 NN)) with ⟨q, d1, m4, d2, d3, d4⟩ | ⟨e, d1, m4, d2, d3, d4, d5, d6⟩
  · rw [d2]; exact Or.inl ⟨q, bnS_l d1, m4, rfl, d3, Rf_t (Rf_t (Rf_t a6 b6) c6) d4⟩
  have cd := nbB_ok hL d1
  rw [d2, bnS_r d1, un (M + 1), s4]
  rcases hnum8 hG hL d3 cd.2.2.2.2 (i := 4) (by decide) (lo := 1) (top := 100) (by decide) (by decide) (v1 := 1) (v2 := 99) rfl (by decide) hN (mj_lp (M + 1) (f_X5_readHouse_2 NN)) with ⟨q, g1, m5, g2, g3, g4⟩ | ⟨y, g1, m5, g2, g3, g4, g5, g6⟩
  · rw [g2]; exact Or.inl ⟨q, bnS_l g1, m5, rfl, g3, Rf_t (Rf_t (Rf_t (Rf_t a6 b6) c6) d6) g4⟩
  have cg' := nbB_ok hL g1
  rw [g2, bnS_r g1, un M]
  have r5 : Rf m m5 := Rf_t (Rf_t (Rf_t (Rf_t a6 b6) c6) d6) g6
  have s5 : ∀ K, f_X5_readHouse_2 NN K (nI (4 + 1), m5) = ((f_X5_readMore NN 6 m5).bind (fun r2 => if r2.1 = 6 then ((f_X5_readNumber NN 0 ((r2.2.1 56 6) - 1) r2.2).bind (fun r4 => if (r4.2.1 55 7) = (-1 : Int32) then ((f_X5_readMore NN 7 r4.2).bind (fun r6 => f_X5_readHouse_118 NN r4.1 (-1 : Int32) r6.1 r6.2)) else (f_X5_readHouse_118 NN r4.1 (-1 : Int32) (-1 : Int32) r4.2))) else f_X5_readHouse_119 NN (-1 : Int32) (-1 : Int32) r2.1 r2.2)) := fun K => by
    unfold f_X5_readHouse_2
    dsimp only
    rw [if_pos (show (5 : Int32) ≤ nI (4 + 1) by decide)]
  rw [s5]
  have t0 : m5.1 74 0 = nI a.1 := by rw [g5 0 (by decide), d5 0 (by decide), c5 0 (by decide), b5 0 (by decide), a4]
  have t1 : m5.1 74 1 = nI b.1 := by rw [g5 1 (by decide), d5 1 (by decide), c5 1 (by decide), b4]
  have t2 : m5.1 74 2 = nI c.1 := by rw [g5 2 (by decide), d5 2 (by decide), c4]
  have t3 : m5.1 74 3 = nI e.1 := by rw [g5 3 (by decide), d4]
  refine IT8_R (tail8 hG hL g3 cg'.2.2.2.2 (x := xH a.1 b.1 c.1 e.1 y.1) hN (fun m' p' fr nx x1 x2 h1 h2 h3 h4 h5 h6 => ?_)) r5
  exact done8 hG h1 hr (by omega) (by omega) (by omega) (by omega) (by omega) h3 h4 (by rw [h2]; exact t0) (by rw [h2]; exact t1) (by rw [h2]; exact t2) (by rw [h2]; exact t3) (by rw [h2]; exact g4) h5 h6 NN
theorem item8 {m : mj_m} {t : aT} {u : Nat → Int32} {L : Nat → Int32} {n p : Nat} (hG : Good t) (hL : LL L n) (d : D8 m t u L n p) (hp : p ≤ n) {N : Nat} (hN : 20 ≤ N) : IT8 m u L n (itP L t p) (f_X5_readItem N m) := by
  have hn := hL.1
  have gs := GS hG
  have gh := GH hG
  have gk := GK hG
  unfold f_X5_readItem f_X5_readWord itP
  rw [d.1.2.1, mw_eq]
  rcases wordL8 hL d.1 hp (to := 5) (by omega) hN 6 0 0 N (by omega) (by omega) (by omega) with ⟨y, b1, b2⟩ | ⟨w, b1, b2, b3, b4, b5⟩
  · rw [show mj_lp N (f_X5_readWord_5 N 5 m) (0, 0) = _ from b2, bind_some', bnS_l b1]
    exact Or.inl ⟨y, rfl, mj_wI m 55 7 (nI y), rfl, wI_e, Rf_w (Rf_r m) (by omega)⟩
  have fi := fitF_in hL (w := w) (by omega) hp
  rw [b4] at fi
  have d1 : D8 (mj_wI m 55 5 (nI (p + wl w))) t u L n (p + wl w) := D8_R hG d (C8_5 d.1) (by rw [wI_n (by omega)]) (Rd_w (Rd_r m) (by omega))
  have r1 : Rf m (mj_wI m 55 5 (nI (p + wl w))) := Rf_w (Rf_r m) (by omega)
  rw [show mj_lp N (f_X5_readWord_5 N 5 m) (0, 0) = _ from b5, bind_some', bnS_r b1]
  generalize mj_wI m 55 5 (nI (p + wl w)) = m1 at d1 r1
  unfold itW
  have full : ∀ x : Nat ⊕ (aT × Nat), x = .inl p → IT8 m u L n x ((f_X5_fail N (nI p) m1).bind (fun r5 => (mj_ck (r5.1 &&& 1 == r5.1) ( some (r5.1, r5.2))))) := fun x hx => by
    unfold f_X5_fail
    rw [mw_eq, bind_some', mj_ck_t (show ((0 : Int32) &&& 1 == 0) = true by decide)]
    exact Or.inl ⟨p, hx, _, rfl, wI_e, Rf_w r1 (by omega)⟩
  rcases (by omega : w = 0 ∨ w = 1 ∨ w = 2 ∨ w = 3 ∨ w = 4 ∨ w = 5) with rfl | rfl | rfl | rfl | rfl | rfl
  · dsimp only
    rw [if_pos (show nI 0 = 0 from rfl), z_streets d1.2.1]
    by_cases q : t 13 0 = 12
    · rw [if_pos (show (12 : Int32) ≤ nI (t 13 0) by rw [q]; decide)]
      exact full _ (if_pos (decide_eq_true (Or.inl ⟨rfl, q⟩)))
    · rw [if_neg (show ¬ 12 ≤ nI (t 13 0) from (nI_ge (by omega) (by omega) : ¬ nI 12 ≤ nI (t 13 0))), if_neg (show ¬ fullB t 0 = true from fun z => by have := of_decide_eq_true z; omega), if_pos rfl]
      exact IT8_R (IT8_b (street8 hG hL d1 fi (by omega) hN)) r1
  · dsimp only
    rw [if_neg (show ¬ nI 1 = 0 by decide), if_pos (show nI 1 = 1 from rfl), z_houses d1.2.1]
    by_cases q : t 13 1 = 10
    · rw [if_pos (show (10 : Int32) ≤ nI (t 13 1) by rw [q]; decide)]
      exact full _ (if_pos (decide_eq_true (Or.inr (Or.inl ⟨rfl, q⟩))))
    · rw [if_neg (show ¬ 10 ≤ nI (t 13 1) from (nI_ge (by omega) (by omega) : ¬ nI 10 ≤ nI (t 13 1))), if_neg (show ¬ fullB t 1 = true from fun z => by have := of_decide_eq_true z; omega), if_neg (by decide), if_pos rfl]
      exact IT8_R (IT8_b (house8 hG hL d1 fi (by omega) hN)) r1
  · dsimp only
    rw [if_neg (show ¬ nI 2 = 0 by decide), if_neg (show ¬ nI 2 = 1 by decide), if_pos (show nI 2 = 2 from rfl), z_shakes d1.2.1]
    by_cases q : t 13 2 = 4
    · rw [if_pos (show (4 : Int32) ≤ nI (t 13 2) by rw [q]; decide)]
      exact full _ (if_pos (decide_eq_true (Or.inr (Or.inr ⟨rfl, q⟩))))
    · rw [if_neg (show ¬ 4 ≤ nI (t 13 2) from (nI_ge (by omega) (by omega) : ¬ nI 4 ≤ nI (t 13 2))), if_neg (show ¬ fullB t 2 = true from fun z => by have := of_decide_eq_true z; omega), if_neg (by decide), if_neg (by decide), if_pos rfl]
      exact IT8_R (IT8_b (shake8 hG hL d1 fi (by omega) hN)) r1
  · dsimp only
    rw [if_neg (show ¬ nI 3 = 0 by decide), if_neg (show ¬ nI 3 = 1 by decide), if_neg (show ¬ nI 3 = 2 by decide), if_pos (show nI 3 = 3 from rfl), if_neg (show ¬ fullB t 3 = true from fun z => by have := of_decide_eq_true z; omega), if_neg (by decide), if_neg (by decide), if_neg (by decide), if_pos rfl]
    exact IT8_R (scal8 hG hL d1 fi (lo := 1) (top := 1000) (i := 3) (by decide) (by decide) rfl (by decide) (by decide) hN) r1
  · dsimp only
    rw [if_neg (show ¬ nI 4 = 0 by decide), if_neg (show ¬ nI 4 = 1 by decide), if_neg (show ¬ nI 4 = 2 by decide), if_neg (show ¬ nI 4 = 3 by decide), if_pos (show nI 4 = 4 from rfl), if_neg (show ¬ fullB t 4 = true from fun z => by have := of_decide_eq_true z; omega), if_neg (by decide), if_neg (by decide), if_neg (by decide), if_neg (by decide), if_pos rfl]
    exact IT8_R (scal8 hG hL d1 fi (lo := 0) (top := 11) (i := 4) (by decide) (by decide) rfl (by decide) (by decide) hN) r1
  · dsimp only
    rw [if_neg (show ¬ nI 5 = 0 by decide), if_neg (show ¬ nI 5 = 1 by decide), if_neg (show ¬ nI 5 = 2 by decide), if_neg (show ¬ nI 5 = 3 by decide), if_neg (show ¬ nI 5 = 4 by decide), if_pos (show nI 5 = 5 from rfl), if_neg (show ¬ fullB t 5 = true from fun z => by have := of_decide_eq_true z; omega), if_neg (by decide), if_neg (by decide), if_neg (by decide), if_neg (by decide), if_neg (by decide)]
    exact IT8_R (scal8 hG hL d1 fi (lo := 0) (top := 11) (i := 5) (by decide) (by decide) rfl (by decide) (by decide) hN) r1
