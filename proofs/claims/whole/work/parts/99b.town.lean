/-! A TOWN FROM LETTERS: all items, on both sides; the call -/
theorem bnS_inl {α β : Type} {x : Nat ⊕ α} {f : α → Nat ⊕ β} {q : Nat} (h : bnS x f = .inl q) : x = .inl q ∨ ∃ a, x = .inr a ∧ f a = .inl q := by
  cases x with
  | inl z => exact Or.inl (by rw [Sum.inl.inj (show (Sum.inl z : Nat ⊕ β) = .inl q from h)])
  | inr a => exact Or.inr ⟨a, rfl, h⟩
theorem mo2_err {L : Nat → Int32} {n : Nat} {t : aT} {f p q : Nat} (hp : p ≤ n) (h : mo2 L t f p = .inl q) : q ≤ n + 20 := by
  unfold mo2 at h
  by_cases y : L p = 32
  · rw [if_pos y] at h
    rcases bnS_inl h with e | ⟨w, e, h⟩
    · have := rwN_in _ _ _ (by omega) (by omega) e; omega
    · have w1 := rwN_r _ _ _ e
      have w2 := wl_le w (by omega)
      rcases bnS_inl h with e | ⟨x, e, h⟩
      · have := nbB_in e; omega
      · cases h
  · rw [if_neg y] at h; cases h
theorem moP_err {L : Nat → Int32} {n : Nat} (hL : LL L n) {t : aT} {p q : Nat} (hp : p ≤ n) (h : moP L t p = .inl q) : q ≤ n + 20 := by
  unfold moP at h
  by_cases y : L p = 32
  · rw [if_pos y] at h
    rcases bnS_inl h with e | ⟨w, e, h⟩
    · have := rwN_in _ _ _ (by omega) (by omega) e; omega
    · have w1 := rwN_r _ _ _ e
      have w2 := wl_le w (by omega)
      by_cases z : w = 6
      · rw [if_pos z] at h
        rcases bnS_inl h with e | ⟨x, e, h⟩
        · have := nbB_in e; omega
        · have := nbB_ok hL e
          exact mo2_err (by omega) h
      · rw [if_neg z] at h
        rcases bnS_inl h with e | ⟨x, e, h⟩
        · have := nbB_in e; omega
        · cases h
  · rw [if_neg y] at h; cases h
theorem it_err {L : Nat → Int32} {n : Nat} (hL : LL L n) {t : aT} {p q : Nat} (hp : p ≤ n) (h : itP L t p = .inl q) : q ≤ 1000 := by
  have hn := hL.1
  unfold itP at h
  rcases bnS_inl h with e | ⟨w, e, h⟩
  · have := rwN_in _ _ _ (by omega) (by omega) e; omega
  have w1 := rwN_r _ _ _ e
  have w2 := wl_le w (by omega)
  have fi := fitF_in hL (w := w) (by omega) hp
  rw [w1.2.2] at fi
  unfold itW at h
  by_cases y : fullB t w = true
  · rw [if_pos y] at h; have := Sum.inl.inj h; omega
  rw [if_neg y] at h
  by_cases w0 : w = 0
  · rw [if_pos w0] at h
    unfold stP at h
    rcases bnS_inl h with e | ⟨a, e, h⟩
    · have := nbB_in e; omega
    have c1 := nbB_ok hL e
    rcases bnS_inl h with e | ⟨b, e, h⟩
    · have := nbB_in e; omega
    by_cases z : a.1 = b.1
    · rw [if_pos z] at h; have := Sum.inl.inj h; omega
    · rw [if_neg z] at h; cases h
  rw [if_neg w0] at h
  by_cases w1 : w = 1
  · rw [if_pos w1] at h
    unfold hsP at h
    rcases bnS_inl h with e | ⟨a, e, h⟩
    · have := nbB_in e; omega
    have c1 := nbB_ok hL e
    rcases bnS_inl h with e | ⟨b, e, h⟩
    · have := nbB_in e; omega
    have c2 := nbB_ok hL e
    rcases bnS_inl h with e | ⟨b, e, h⟩
    · have := nbB_in e; omega
    have c3 := nbB_ok hL e
    rcases bnS_inl h with e | ⟨b, e, h⟩
    · have := nbB_in e; omega
    have c4 := nbB_ok hL e
    rcases bnS_inl h with e | ⟨b, e, h⟩
    · have := nbB_in e; omega
    have c5 := nbB_ok hL e
    rcases bnS_inl h with e | ⟨b, e, h⟩
    · have := moP_err hL c5.2.2.2.2 e; omega
    · cases h
  rw [if_neg w1] at h
  by_cases w2 : w = 2
  · rw [if_pos w2] at h
    unfold skP at h
    rcases bnS_inl h with e | ⟨a, e, h⟩
    · have := nbB_in e; omega
    have c1 := nbB_ok hL e
    rcases bnS_inl h with e | ⟨b, e, h⟩
    · have := nbB_in e; omega
    · cases h
  rw [if_neg w2] at h
  have sc : ∀ lo top i, scP L t (p + wl w) lo top i = .inl q → q ≤ 1000 := fun lo top i h => by
    unfold scP at h
    rcases bnS_inl h with e | ⟨a, e, h⟩
    · have := nbB_in e; omega
    · cases h
  by_cases w3 : w = 3
  · rw [if_pos w3] at h; exact sc _ _ _ h
  rw [if_neg w3] at h
  by_cases w4 : w = 4
  · rw [if_pos w4] at h; exact sc _ _ _ h
  rw [if_neg w4] at h
  exact sc _ _ _ h
def twP (L : Nat → Int32) (n : Nat) : Nat → aT → Nat → Nat → Nat ⊕ (aT × Nat)
  | 0, _, _, _ => .inl 0
  | d + 1, t, p, k => bnS (itP L t p) (fun r => if r.2 = n then .inr (r.1, k) else if L r.2 = 59 then twP L n d r.1 (r.2 + 1) (k + 1) else .inl r.2)
def Rh (m m' : mj_m) : Prop := (∀ a k, (a < 55 ∨ 75 ≤ a) → m'.1 a k = m.1 a k) ∧ m'.2 = m.2
theorem Rh_r (m : mj_m) : Rh m m := ⟨fun _ _ _ => rfl, rfl⟩
theorem Rh_t {m m' m'' : mj_m} (h : Rh m m') (h' : Rh m' m'') : Rh m m'' := ⟨fun a k q => (h'.1 a k q).trans (h.1 a k q), h'.2.trans h.2⟩
theorem Rh_w {m m' : mj_m} {a k : Nat} {v : Int32} (h : Rh m m') (q : 55 ≤ a ∧ a < 75) : Rh m (mj_wI m' a k v) := Rh_t h ⟨fun b j hb => wI_n (by omega), rfl⟩
theorem Rf_h {m m' : mj_m} (h : Rf m m') : Rh m m' := ⟨fun a k q => h.1 a k (by omega), h.2⟩
def Rt (m m' : mj_m) : Prop := (∀ a k, (a = 0 ∨ (18 ≤ a ∧ a < 55) ∨ 75 ≤ a) → m'.1 a k = m.1 a k) ∧ m'.2 = m.2
theorem items8 {u : Nat → Int32} {L : Nat → Int32} {n : Nat} (hL : LL L n) {N : Nat} (hN : 20 ≤ N) : ∀ d (t : aT) p k M (m : mj_m), n < p + d → d < M → p ≤ n → 1 ≤ k → 2 * k ≤ p + 2 → Good t → D8 m t u L n p →
    (∃ q, twP L n d t p k = .inl q ∧ q ≤ 1000 ∧ ∃ m', mj_lp M (f_X5_read_7 N) (nI k, m) = some (-1, m') ∧ m'.1 55 7 = nI q ∧ Rh m m') ∨
    ∃ r, twP L n d t p k = .inr r ∧ Good r.1 ∧ r.2 ≤ 100 ∧ ∃ m', mj_lp M (f_X5_read_7 N) (nI k, m) = some (nI r.2, m') ∧ Rep (cg m' 1 8) r.1 u ∧ m'.1 55 7 = -1 ∧ (∀ i, i < 10 → b01 (m'.1 (8 + i) 7)) ∧ Rt m m' := by
  have hn := hL.1
  intro d
  induction d with
  | zero => intro t p k M m h1 _ h3; omega
  | succ d ih =>
    intro t p k M m h1 h2 h3 h4 h5 hG d8
    obtain ⟨M, rfl⟩ : ∃ k, M = k + 1 := ⟨M - 1, by omega⟩
    show (∃ q, bnS (itP L t p) (fun r => if r.2 = n then .inr (r.1, k) else if L r.2 = 59 then twP L n d r.1 (r.2 + 1) (k + 1) else .inl r.2) = .inl q ∧ _ ∧ ∃ m', f_X5_read_7 N (mj_lp M (f_X5_read_7 N)) (nI k, m) = _ ∧ _) ∨ ∃ r, bnS (itP L t p) (fun r => if r.2 = n then .inr (r.1, k) else if L r.2 = 59 then twP L n d r.1 (r.2 + 1) (k + 1) else .inl r.2) = .inr r ∧ _ ∧ _ ∧ ∃ m', f_X5_read_7 N (mj_lp M (f_X5_read_7 N)) (nI k, m) = _ ∧ _
    have run : ∀ K, f_X5_read_7 N K (nI k, m) = ((f_X5_readItem N m).bind (fun r2 => if r2.1 = 0 then (some ((-1 : Int32), r2.2)) else (if (r2.2.1 55 5) = (r2.2.1 55 4) then ((f_X7_becomeLike_1_56 N r2.2).bind (fun r5 => some (nI k, r5))) else ((f_X5_letter N (r2.2.1 55 5) r2.2).bind (fun r5 => if r5 = 59 then (mj_mw (mj_wI r2.2 55 5 ((r2.2.1 55 5) + 1)) (fun m7 => mj_mw (nI k + 1) (fun x8 => K (x8, m7)))) else ((f_X5_fail N (r2.2.1 55 5) r2.2).bind (fun r7 => some ((-1 : Int32), r7.2)))))))) := fun K => by
      unfold f_X5_read_7
      dsimp only
      rw [if_neg (show ¬ 120 < nI k from (nI_nlt (by omega) (by omega) : ¬ nI 120 < nI k))]
    rw [run]
    rcases item8 hG hL d8 h3 hN with ⟨q, a1, m1, a2, a3, a4⟩ | ⟨r, a1, m1, a2, a3, a4⟩
    · rw [a2, bind_some', if_pos rfl, bnS_l a1]
      refine Or.inl ⟨q, rfl, ?_, m1, rfl, a3, Rf_h a4⟩
      exact it_err hL h3 a1
    · obtain ⟨i1, i2, i3⟩ := it_ok hL hG a1
      rw [a2, bind_some', if_neg n10, bnS_r a1, a3.1.2.1, a3.1.1]
      by_cases q : r.2 = n
      · rw [if_pos q, if_pos (by rw [q])]
        obtain ⟨m2, b1, b2, b3, b4⟩ := bl_1_56 (m := m1) a3.2.2.2 hN
        rw [b1, bind_some']
        refine Or.inr ⟨_, rfl, i1, by show k ≤ 100; omega, m2, rfl, Rep_same a3.2.1 i1 (fun f i hd => b2 f i hd), by rw [b3 55 7 (by omega)]; exact a3.2.2.1, fun i hi => ?_, ⟨fun a j qa => ?_, by rw [b4, a4.2]⟩⟩
        · have e : m2.1 (8 + i) 7 = m1.1 (63 + i) 7 := b2 8 i ⟨by omega, by show i < 10; omega⟩
          rw [e]; exact a3.2.2.2 i hi
        · rw [b3 a j (by omega)]; exact a4.1 a j (by omega)
      · rw [if_neg q, if_neg (fun z => q ((nI_eq (by omega) (by omega)).mp z)), letter8 hL a3.1 (by omega), bind_some']
        by_cases y : L r.2 = 59
        · have rn : r.2 < n := by omega
          rw [if_pos y, if_pos y, mw_eq, ← nI_succ, mw_eq, ← nI_succ]
          have d9 : D8 (mj_wI m1 55 5 (nI (r.2 + 1))) r.1 u L n (r.2 + 1) := D8_R i1 a3 (C8_5 a3.1) (by rw [wI_n (by omega)]) (Rd_w (Rd_r m1) (by omega))
          have rh : Rh m (mj_wI m1 55 5 (nI (r.2 + 1))) := Rh_w (Rf_h a4) (by omega)
          rcases ih r.1 (r.2 + 1) (k + 1) M _ (by omega) (by omega) (by omega) (by omega) (by omega) i1 d9 with ⟨z, c1, c0, m2, c2, c3, c4⟩ | ⟨z, c1, c0, cc, m2, c2, c3, c4, c5, c6⟩
          · exact Or.inl ⟨z, c1, c0, m2, c2, c3, Rh_t rh c4⟩
          · exact Or.inr ⟨z, c1, c0, cc, m2, c2, c3, c4, c5, ⟨fun a j qa => (c6.1 a j qa).trans (rh.1 a j (by omega)), c6.2.trans rh.2⟩⟩
        · rw [if_neg y, if_neg y]
          unfold f_X5_fail
          rw [mw_eq, bind_some']
          exact Or.inl ⟨r.2, rfl, by omega, _, rfl, wI_e, Rh_w (Rf_h a4) (by omega)⟩
theorem items9 {u : Nat → Int32} {s : Nat} {L : Nat → Int32} {n : Nat} (hL : LL L n) (hs : s < 8) {N : Nat} (hN : 100 ≤ N) : ∀ d (t : aT) p k M (m : mj_m), n < p + d → d + 1 < M → p ≤ n → 2 * k ≤ p + 2 → Good t → C9 m s L n p → Rep (mg m) t u →
    (∃ q, twP L n d t p k = .inl q ∧ ∃ x m', (f_X9_item N m).bind (fun r9 => mj_lp M (f_X9_town_62 N) (nI k, r9.1, r9.2)) = f_X9_town_133 N x 0 m' ∧ m'.1 95 37 = nI q ∧ Rg m m') ∨
    ∃ r, twP L n d t p k = .inr r ∧ ∃ m', (f_X9_item N m).bind (fun r9 => mj_lp M (f_X9_town_62 N) (nI k, r9.1, r9.2)) = some (nI r.2, m') ∧ Rep (mg m') r.1 u ∧ Rg m m' := by
  have hn := hL.1
  intro d
  induction d with
  | zero => intro t p k M m h1 _ h3; omega
  | succ d ih =>
    intro t p k M m h1 h2 h3 h5 hG c g
    obtain ⟨M, rfl⟩ : ∃ k, M = k + 1 := ⟨M - 1, by omega⟩
    obtain ⟨M', hM⟩ : ∃ k, M = k + 1 := ⟨M - 1, by omega⟩
    have un : ∀ k, mj_lp (k + 1) (f_X9_town_62 N) = f_X9_town_62 N (mj_lp k (f_X9_town_62 N)) := fun k => rfl
    have dead : ∀ K x m', f_X9_town_62 N K (x, 0, m') = f_X9_town_133 N x 0 m' := fun K x m' => by
      unfold f_X9_town_62
      dsimp only
      rw [if_pos rfl]
    show (∃ q, bnS (itP L t p) (fun r => if r.2 = n then .inr (r.1, k) else if L r.2 = 59 then twP L n d r.1 (r.2 + 1) (k + 1) else .inl r.2) = .inl q ∧ _) ∨ ∃ r, bnS (itP L t p) (fun r => if r.2 = n then .inr (r.1, k) else if L r.2 = 59 then twP L n d r.1 (r.2 + 1) (k + 1) else .inl r.2) = .inr r ∧ _
    rcases item9 hG hL hs c h3 g hN with ⟨q, a1, m1, a2, a3, a4⟩ | ⟨r, a1, m1, a2, a3, a5, a4⟩
    · rw [a2, bind_some', un, dead, bnS_l a1]
      exact Or.inl ⟨q, rfl, _, m1, rfl, a3, a4⟩
    · obtain ⟨i1, i2, i3⟩ := it_ok hL hG a1
      rw [a2, bind_some', un, bnS_r a1]
      by_cases q : r.2 = n
      · rw [if_pos q]
        refine Or.inr ⟨_, rfl, m1, ?_, a5, a4⟩
        unfold f_X9_town_62 f_X9_town_133
        dsimp only
        rw [if_neg n10, a3.2.2.1, a3.2.1, if_pos (nI_le (by omega) (by omega)), if_neg n10]
      · have rn : r.2 < n := by omega
        obtain ⟨e1, e2⟩ := cell9 hL hs a3 rn
        rw [if_neg q]
        by_cases y : L r.2 = 59
        · rw [if_pos y]
          have rr : Rg m (mj_wI m1 95 34 (nI (r.2 + 1))) := Rg_w a4 (by omega)
          have step : f_X9_town_62 N (mj_lp M (f_X9_town_62 N)) (nI k, 1, m1) = (f_X9_item N (mj_wI m1 95 34 (nI (r.2 + 1)))).bind (fun r9 => mj_lp M (f_X9_town_62 N) (nI (k + 1), r9.1, r9.2)) := by
            unfold f_X9_town_62
            dsimp only
            rw [if_neg n10, a3.2.2.1, a3.2.1, if_neg (nI_ge rn (by omega)), a3.1, mj_ck_t e1, e2, if_pos y, mw_eq, ← nI_succ, mw_eq, ← nI_succ]
          show (∃ q, twP L n d r.1 (r.2 + 1) (k + 1) = .inl q ∧ ∃ x m', f_X9_town_62 N (mj_lp M (f_X9_town_62 N)) (nI k, 1, m1) = _ ∧ _) ∨ ∃ z, twP L n d r.1 (r.2 + 1) (k + 1) = .inr z ∧ ∃ m', f_X9_town_62 N (mj_lp M (f_X9_town_62 N)) (nI k, 1, m1) = _ ∧ _
          rw [step]
          rcases ih r.1 (r.2 + 1) (k + 1) M _ (by omega) (by omega) (by omega) (by omega) i1 (C9_g c rr wI_e) (Re_m i1 a5 (Re_w (Re_r m1) (by omega))) with ⟨z, c1, x, m2, c2, c3, c4⟩ | ⟨z, c1, m2, c2, c3, c4⟩
          · exact Or.inl ⟨z, c1, x, m2, c2, c3, Rg_t rr c4⟩
          · exact Or.inr ⟨z, c1, m2, c2, c3, Rg_t rr c4⟩
        · rw [if_neg y]
          refine Or.inl ⟨r.2, rfl, nI k, mj_wI m1 95 37 (nI r.2), ?_, wI_e, Rg_w a4 (by omega)⟩
          unfold f_X9_town_62
          dsimp only
          rw [if_neg n10, a3.2.2.1, a3.2.1, if_neg (nI_ge rn (by omega)), a3.1, mj_ck_t e1, e2, if_neg y]
          unfold f_X9_wrong
          rw [mw_eq, bind_some', hM]
          exact dead _ _ _
theorem beginR8 {m : mj_m} {t : aT} {u : Nat → Int32} {s n : Nat} (hG : Good t) (g : Rep (cg m 1 8) t u) (hb : ∀ i, i < 10 → b01 (m.1 (8 + i) 7)) (hs : s < 8) (hn : n ≤ 120) (hz : m.1 (79 + 2 * s) 2 = nI n) {N : Nat} (hN : 200 ≤ N) : ∃ m', f_X5_begin N (79 + 2 * s) m = some m' ∧ D8 m' t u (fun i => if i < n then (m.2 (80 + 2 * s) i).toInt32 else -1) n 0 ∧ Rh m m' := by
  obtain ⟨z, ⟨-, e2, e3, e4⟩, e5⟩ := lp_cnt (B := f_X5_begin_10 N (79 + 2 * s)) (E := fun z => (f_X7_becomeLike_56_1 N (mj_wI (mj_wI z.2 55 5 0) 55 7 (-1 : Int32))).bind (fun r4 => some r4)) (c := n) (N := N) (s0 := ((0 : Int32), mj_wI m 55 4 (nI n))) (fun i z => z.1 = nI i ∧ (∀ j, j < i → z.2.1 73 j = (m.2 (80 + 2 * s) j).toInt32) ∧ (∀ a k, a ≠ 73 → z.2.1 a k = (mj_wI m 55 4 (nI n)).1 a k) ∧ z.2.2 = m.2) (by omega)
    ⟨rfl, fun j hj => absurd hj (Nat.not_lt_zero j), fun _ _ _ => rfl, rfl⟩
    (fun i z hi ⟨e1, e2, e3, e4⟩ => by
      refine ⟨(nI (i + 1), mj_wI z.2 73 i (m.2 (80 + 2 * s) i).toInt32), ⟨rfl, fun j hj => ?_, fun a k q => by rw [wI_n (by omega)]; exact e3 a k q, e4⟩, fun κ => ?_⟩
      · by_cases y : j = i
        · rw [y, wI_e]
        · rw [wI_n (by omega)]; exact e2 j (by omega)
      · unfold f_X5_begin_10
        rw [e1, e3 55 4 (by omega), wI_e, if_neg (nI_ge hi (by omega)), as8 hs (by rw [e3 _ 2 (by omega), wI_n (by omega)]; exact hz) hn hi, bind_some', mj_ck_t (o6 hs), mj_ck_t (bb_73 (by omega)), nI_clamp (by omega), e4, mw_eq, mw_eq, nI_succ])
    (fun z ⟨e1, _, e3, _⟩ κ => by
      unfold f_X5_begin_10
      rw [e1, e3 55 4 (by omega), wI_e, if_pos (nI_le (by omega) (by omega)), mw_eq, mw_eq])
  have v : ∀ a k, a < 55 ∨ 75 ≤ a → (mj_wI (mj_wI z.2 55 5 0) 55 7 (-1 : Int32)).1 a k = m.1 a k := fun a k q => by
    rw [wI_n (by omega), wI_n (by omega), e3 a k (by omega), wI_n (by omega)]
  obtain ⟨m', a1, a2, a3, a4⟩ := bl_56_1 (m := mj_wI (mj_wI z.2 55 5 0) 55 7 (-1 : Int32)) (fun i hi => by rw [v _ _ (by omega)]; exact hb i hi) (N := N) (by omega)
  refine ⟨m', ?_, ⟨⟨?_, ?_, fun i hi => ?_⟩, ?_, ?_, fun i hi => ?_⟩, ⟨fun a k q => ?_, ?_⟩⟩
  · unfold f_X5_begin
    rw [mj_ck_t (o6 hs), hz, mw_eq, e5, a1]; rfl
  · rw [a3 55 4 (by omega), wI_n (by omega), wI_n (by omega), e3 55 4 (by omega), wI_e]
  · rw [a3 55 5 (by omega), wI_n (by omega), wI_e]; rfl
  · rw [a3 73 i (by omega), wI_n (by omega), wI_n (by omega), e2 i hi]; exact (if_pos hi).symm
  · exact Rep_same g hG (fun f i hd => by
      rw [a2 f i hd]
      have := cA_rng (b := 1) (d := 8) rfl hd
      exact v _ _ (by omega))
  · rw [a3 55 7 (by omega), wI_e]
  · have e : m'.1 (63 + i) 7 = (mj_wI (mj_wI z.2 55 5 0) 55 7 (-1 : Int32)).1 (8 + i) 7 := a2 8 i ⟨by omega, by show i < 10; omega⟩
    rw [e, v _ _ (by omega)]; exact hb i hi
  · rw [a3 a k (by omega)]; exact v a k q
  · rw [a4]; exact e4
