/-! A TOWN FROM LETTERS: the draft's cells; the class reads an item -/
def h56w (m : mj_m) (n : Nat) (c w d e k : Int32) : mj_m := mj_wI (mj_wI (mj_wI (mj_wI (mj_wI (mj_wI (mj_wI (mj_wI (mj_wI (mj_wI m (63 + n) 0 c) (63 + n) 1 w) (63 + n) 2 d) (63 + n) 3 e) (63 + n) 4 k) (63 + n) 5 (-1)) (63 + n) 6 (-1)) (63 + n) 7 0) 60 n 0) 56 7 (nI (n + 1))
theorem a56_shake {m : mj_m} {n : Nat} (h : m.1 56 8 = nI n) (hn : n < 4) (N : Nat) (v w : Int32) : f_X7_addShake_56 N v w m = some (nI n, mj_wI (mj_wI (mj_wI m 61 n v) 62 n w) 56 8 (nI (n + 1))) := by
  unfold f_X7_addShake_56
  rw [h, if_pos (show nI n < 4 from (nI_lt hn (by decide) : nI n < nI 4)), mj_ck_t (bb_61 hn), nI_clamp (by omega), mw_eq, wI_n (by omega), h, mj_ck_t (bb_62 hn), nI_clamp (by omega), mw_eq, wI_n (by omega), wI_n (by omega), h, mw_eq, wI_e, ← nI_succ, nI_pred]
theorem a56_street {m : mj_m} {n : Nat} (h : m.1 56 6 = nI n) (hn : n < 12) (N : Nat) (v w : Int32) : f_X7_addStreet_56 N v w m = some (nI n, mj_wI (mj_wI (mj_wI m 57 n v) 58 n w) 56 6 (nI (n + 1))) := by
  unfold f_X7_addStreet_56
  rw [h, if_pos (show nI n < 12 from (nI_lt hn (by decide) : nI n < nI 12)), mj_ck_t (bb_57 hn), nI_clamp (by omega), mw_eq, wI_n (by omega), h, mj_ck_t (bb_58 hn), nI_clamp (by omega), mw_eq, wI_n (by omega), wI_n (by omega), h, mw_eq, wI_e, ← nI_succ, nI_pred]
theorem a56_house {m : mj_m} {n : Nat} (h : m.1 56 7 = nI n) (hn : n < 10) (N : Nat) (c w d e k : Int32) : f_X7_addHouse_56 N c w d e k m = some (nI n, h56w m n c w d e k) := by
  unfold f_X7_addHouse_56 h56w
  rw [h, if_pos (show nI n < 10 from (nI_lt hn (by decide) : nI n < nI 10)), mj_ck_t (bb_59 hn), nI_clamp (by omega)]
  simp only [mw_eq]
  simp only [wI_n (show 56 ≠ 63 + n ∨ 7 ≠ 0 by omega), wI_n (show 56 ≠ 63 + n ∨ 7 ≠ 1 by omega), wI_n (show 56 ≠ 63 + n ∨ 7 ≠ 2 by omega), wI_n (show 56 ≠ 63 + n ∨ 7 ≠ 3 by omega), wI_n (show 56 ≠ 63 + n ∨ 7 ≠ 4 by omega), wI_n (show 56 ≠ 63 + n ∨ 7 ≠ 5 by omega), wI_n (show 56 ≠ 63 + n ∨ 7 ≠ 6 by omega), wI_n (show 56 ≠ 63 + n ∨ 7 ≠ 7 by omega), wI_n (show 56 ≠ 60 ∨ 7 ≠ n by omega), wI_e, h, nI_clamp (show n < 2 ^ 31 by omega), mj_ck_t (bb_60 hn), ← nI_succ, nI_pred]
theorem gd_house {m : mj_m} {t : aT} {u : Nat → Int32} (hG : Good t) (h : Rep (cg m 56 63) t u) (hn : t 13 1 < 10) (x : Nat → Nat) (x5 : x 5 = 0) (x6 : x 6 = 0) (x7 : x 7 = 0) (x8 : x 8 = 0) : Rep (cg (h56w m (t 13 1) (nI (x 0)) (nI (x 1)) (nI (x 2)) (nI (x 3)) (nI (x 4))) 56 63) (grow t 0 8 1 x) u := by
  refine Rep_grow x h hG (by omega) (fun a b hd q1 q2 => ?_) ?_ (fun f f1 f2 => ?_)
  · obtain ⟨d1, d2, d3, d4, d5, d6⟩ := dm_use hd
    rcases cA_fm (b := 56) (d := 63) hd with ⟨q, r⟩ | ⟨q, r⟩ | ⟨q, r⟩ | ⟨q, r⟩ | ⟨q, r⟩ | ⟨q, r⟩ | ⟨q, r⟩ | ⟨q, r⟩ | ⟨q, r⟩ <;>
    (unfold cg gA h56w; rw [r]; dsimp only; rw [wI_n, wI_n, wI_n, wI_n, wI_n, wI_n, wI_n, wI_n, wI_n, wI_n] <;> omega)
  · show (h56w m (t 13 1) _ _ _ _ _).1 56 (6 + 1) = _
    unfold h56w
    rw [wI_e]
  · generalize hm : h56w m (t 13 1) (nI (x 0)) (nI (x 1)) (nI (x 2)) (nI (x 3)) (nI (x 4)) = m'
    have r : m' = h56w m (t 13 1) (nI (x 0)) (nI (x 1)) (nI (x 2)) (nI (x 3)) (nI (x 4)) := hm.symm
    unfold h56w at r
    rcases (by omega : f = 0 ∨ f = 1 ∨ f = 2 ∨ f = 3 ∨ f = 4 ∨ f = 5 ∨ f = 6 ∨ f = 7 ∨ f = 8) with rfl | rfl | rfl | rfl | rfl | rfl | rfl | rfl | rfl
    · show m'.1 (63 + t 13 1) 0 = _; rw [r, wI_n (by omega), wI_n (by omega), wI_n (by omega), wI_n (by omega), wI_n (by omega), wI_n (by omega), wI_n (by omega), wI_n (by omega), wI_n (by omega), wI_e]; simp
    · show m'.1 (63 + t 13 1) 1 = _; rw [r, wI_n (by omega), wI_n (by omega), wI_n (by omega), wI_n (by omega), wI_n (by omega), wI_n (by omega), wI_n (by omega), wI_n (by omega), wI_e]; simp
    · show m'.1 (63 + t 13 1) 2 = _; rw [r, wI_n (by omega), wI_n (by omega), wI_n (by omega), wI_n (by omega), wI_n (by omega), wI_n (by omega), wI_n (by omega), wI_e]; simp
    · show m'.1 (63 + t 13 1) 3 = _; rw [r, wI_n (by omega), wI_n (by omega), wI_n (by omega), wI_n (by omega), wI_n (by omega), wI_n (by omega), wI_e]; simp
    · show m'.1 (63 + t 13 1) 4 = _; rw [r, wI_n (by omega), wI_n (by omega), wI_n (by omega), wI_n (by omega), wI_n (by omega), wI_e]; simp
    · show m'.1 (63 + t 13 1) 5 = _; rw [r, wI_n (by omega), wI_n (by omega), wI_n (by omega), wI_n (by omega), wI_e, x5]; decide
    · show m'.1 (63 + t 13 1) 6 = _; rw [r, wI_n (by omega), wI_n (by omega), wI_n (by omega), wI_e, x6]; decide
    · show m'.1 60 (t 13 1) = _; rw [r, wI_n (by omega), wI_e, x7]; decide
    · show m'.1 (63 + t 13 1) 7 = _; rw [r, wI_n (by omega), wI_n (by omega), wI_e, x8]; decide
theorem gd_shake {m : mj_m} {t : aT} {u : Nat → Int32} (hG : Good t) (h : Rep (cg m 56 63) t u) (hn : t 13 2 < 4) (x : Nat → Nat) : Rep (cg (mj_wI (mj_wI (mj_wI m 61 (t 13 2) (nI (x 11))) 62 (t 13 2) (nI (x 12))) 56 8 (nI (t 13 2 + 1))) 56 63) (grow t 11 12 2 x) u := by
  refine Rep_grow x h hG (by omega) (fun a b hd q1 q2 => ?_) ?_ (fun f f1 f2 => ?_)
  · obtain ⟨d1, d2, d3, d4, d5, d6⟩ := dm_use hd
    rcases cA_fm (b := 56) (d := 63) hd with ⟨q, r⟩ | ⟨q, r⟩ | ⟨q, r⟩ | ⟨q, r⟩ | ⟨q, r⟩ | ⟨q, r⟩ | ⟨q, r⟩ | ⟨q, r⟩ | ⟨q, r⟩ <;>
    (unfold cg gA; rw [r]; dsimp only; rw [wI_n, wI_n, wI_n] <;> omega)
  · exact wI_e
  · rcases (by omega : f = 11 ∨ f = 12) with rfl | rfl
    · show (mj_wI _ _ _ _).1 61 (t 13 2) = _; rw [wI_n (by omega), wI_n (by omega), wI_e]; simp
    · show (mj_wI _ _ _ _).1 62 (t 13 2) = _; rw [wI_n (by omega), wI_e]; simp
theorem gd_street {m : mj_m} {t : aT} {u : Nat → Int32} (hG : Good t) (h : Rep (cg m 56 63) t u) (hn : t 13 0 < 12) (x : Nat → Nat) : Rep (cg (mj_wI (mj_wI (mj_wI m 57 (t 13 0) (nI (x 9))) 58 (t 13 0) (nI (x 10))) 56 6 (nI (t 13 0 + 1))) 56 63) (grow t 9 10 0 x) u := by
  refine Rep_grow x h hG (by omega) (fun a b hd q1 q2 => ?_) ?_ (fun f f1 f2 => ?_)
  · obtain ⟨d1, d2, d3, d4, d5, d6⟩ := dm_use hd
    rcases cA_fm (b := 56) (d := 63) hd with ⟨q, r⟩ | ⟨q, r⟩ | ⟨q, r⟩ | ⟨q, r⟩ | ⟨q, r⟩ | ⟨q, r⟩ | ⟨q, r⟩ | ⟨q, r⟩ | ⟨q, r⟩ <;>
    (unfold cg gA; rw [r]; dsimp only; rw [wI_n, wI_n, wI_n] <;> omega)
  · exact wI_e
  · rcases (by omega : f = 9 ∨ f = 10) with rfl | rfl
    · show (mj_wI _ _ _ _).1 57 (t 13 0) = _; rw [wI_n (by omega), wI_n (by omega), wI_e]; simp
    · show (mj_wI _ _ _ _).1 58 (t 13 0) = _; rw [wI_n (by omega), wI_e]; simp
def RD (m : mj_m) : Prop := ∀ i, i < 10 → b01 (m.1 (63 + i) 7)
theorem RD_of {m m' : mj_m} (h : RD m) (e : ∀ a, 63 ≤ a → a < 73 → m'.1 a 7 = m.1 a 7 ∨ b01 (m'.1 a 7)) : RD m' := fun i hi => by
  rcases e (63 + i) (by omega) (by omega) with q | q
  · rw [q]; exact h i hi
  · exact q
theorem RD_wX {m : mj_m} {a k : Nat} {v : Int32} (h : RD m) (q : 63 ≤ a → a < 73 → k = 7 → b01 v) : RD (mj_wI m a k v) := by
  refine RD_of h (fun b h1 h2 => ?_)
  simp only [wI_1, up_at]
  by_cases y : b = a ∧ 7 = k
  · rw [if_pos y]; exact Or.inr (q (by omega) (by omega) y.2.symm)
  · rw [if_neg y]; exact Or.inl rfl
/-- the class while it reads: the town so far on its draft, the place, no fault -/
def D8 (m : mj_m) (t : aT) (u : Nat → Int32) (L : Nat → Int32) (n p : Nat) : Prop := C8 m L n p ∧ Rep (cg m 56 63) t u ∧ m.1 55 7 = -1 ∧ RD m
def Rf (m m' : mj_m) : Prop := (∀ a k, (a < 55 ∨ a = 73 ∨ 75 ≤ a) → m'.1 a k = m.1 a k) ∧ m'.2 = m.2
theorem Rf_r (m : mj_m) : Rf m m := ⟨fun _ _ _ => rfl, rfl⟩
theorem Rf_t {m m' m'' : mj_m} (h : Rf m m') (h' : Rf m' m'') : Rf m m'' := ⟨fun a k q => (h'.1 a k q).trans (h.1 a k q), h'.2.trans h.2⟩
theorem Rf_w {m m' : mj_m} {a k : Nat} {v : Int32} (h : Rf m m') (q : 55 ≤ a ∧ a < 75 ∧ a ≠ 73) : Rf m (mj_wI m' a k v) := Rf_t h ⟨fun b j hb => wI_n (by omega), rfl⟩
theorem Rd_f {m m' : mj_m} (h : Rd m m') : Rf m m' := ⟨fun a k q => h.1 a k (by omega), h.2⟩
theorem D8_R {m m' : mj_m} {t : aT} {u : Nat → Int32} {L : Nat → Int32} {n p q : Nat} (hG : Good t) (d : D8 m t u L n p) (c : C8 m' L n q) (e7 : m'.1 55 7 = m.1 55 7) (r : Rd m m') : D8 m' t u L n q :=
  ⟨c, Rep_same d.2.1 hG (fun f i hd => by
    have := cA_rng (b := 56) (d := 63) rfl hd
    exact r.1 _ _ (by omega)), e7.trans d.2.2.1, RD_of d.2.2.2 (fun a _ _ => Or.inl (r.1 a 7 (by omega)))⟩
theorem num8D {m : mj_m} {t : aT} {u : Nat → Int32} {L : Nat → Int32} {n p : Nat} (hG : Good t) (hL : LL L n) (d : D8 m t u L n p) (hp : p ≤ n) {lo top : Nat} (hlo : lo < 1000) (ht : top < 1001) {v1 v2 : Int32} (h1 : v1 = nI lo) (h2 : v2 = nI top - 1) {N : Nat} (hN : 20 ≤ N) :
    (∃ q, nbB L p lo top = .inl q ∧ ∃ m', f_X5_readNumber N v1 v2 m = some (-1, m') ∧ m'.1 55 7 = nI q ∧ Rf m m') ∨
    ∃ v, nbB L p lo top = .inr v ∧ ∃ m', f_X5_readNumber N v1 v2 m = some (nI v.1, m') ∧ D8 m' t u L n v.2 ∧ m'.1 55 6 = nI (p + 1) ∧ Rd m m' := by
  rcases num8 hL d.1 hp hlo ht h1 h2 hN with ⟨q, a1, m', a2, a3, a4⟩ | ⟨v, a1, m', a2, a3, a4, a5, a6⟩
  · exact Or.inl ⟨q, a1, m', a2, a3, Rd_f a4⟩
  · exact Or.inr ⟨v, a1, m', a2, D8_R hG d a3 a5 a6, a4, a6⟩
theorem z_streets {m : mj_m} {t : aT} {u : Nat → Int32} (h : Rep (cg m 56 63) t u) : m.1 56 6 = nI (t 13 0) := h.1 0 (by decide)
theorem z_houses {m : mj_m} {t : aT} {u : Nat → Int32} (h : Rep (cg m 56 63) t u) : m.1 56 7 = nI (t 13 1) := h.1 1 (by decide)
theorem z_shakes {m : mj_m} {t : aT} {u : Nat → Int32} (h : Rep (cg m 56 63) t u) : m.1 56 8 = nI (t 13 2) := h.1 2 (by decide)
/-- what an item comes to in the class -/
def IT8 (m : mj_m) (u : Nat → Int32) (L : Nat → Int32) (n : Nat) (x : Nat ⊕ (aT × Nat)) (o : Option (Int32 × mj_m)) : Prop :=
  (∃ q, x = .inl q ∧ ∃ m', o = some (0, m') ∧ m'.1 55 7 = nI q ∧ Rf m m') ∨ ∃ r, x = .inr r ∧ ∃ m', o = some (1, m') ∧ D8 m' r.1 u L n r.2 ∧ Rf m m'
theorem IT8_R {m m1 : mj_m} {u : Nat → Int32} {L : Nat → Int32} {n : Nat} {x : Nat ⊕ (aT × Nat)} {o : Option (Int32 × mj_m)} (h : IT8 m1 u L n x o) (r : Rf m m1) : IT8 m u L n x o := by
  rcases h with ⟨q, a1, m', a2, a3, a4⟩ | ⟨q, a1, m', a2, a3, a4⟩
  · exact Or.inl ⟨q, a1, m', a2, a3, Rf_t r a4⟩
  · exact Or.inr ⟨q, a1, m', a2, a3, Rf_t r a4⟩
theorem IT8_b {m : mj_m} {u : Nat → Int32} {L : Nat → Int32} {n : Nat} {x : Nat ⊕ (aT × Nat)} {o : Option (Int32 × mj_m)} (h : IT8 m u L n x o) : IT8 m u L n x (o.bind (fun r5 => (mj_ck (r5.1 &&& 1 == r5.1) ( some (r5.1, r5.2))))) := by
  rcases h with ⟨q, a1, m', a2, a3, a4⟩ | ⟨q, a1, m', a2, a3, a4⟩
  · exact Or.inl ⟨q, a1, m', by rw [a2, bind_some', mj_ck_t (show ((0 : Int32) &&& 1 == 0) = true by decide)], a3, a4⟩
  · exact Or.inr ⟨q, a1, m', by rw [a2, bind_some', mj_ck_t (show ((1 : Int32) &&& 1 == 1) = true by decide)], a3, a4⟩
theorem street8 {m : mj_m} {t : aT} {u : Nat → Int32} {L : Nat → Int32} {n p : Nat} (hG : Good t) (hL : LL L n) (d : D8 m t u L n p) (hp : p ≤ n) (hr : t 13 0 < 12) {N : Nat} (hN : 20 ≤ N) : IT8 m u L n (stP L t p) (f_X5_readStreet N m) := by
  unfold f_X5_readStreet f_X5_readStreet_24 stP
  rcases num8D hG hL d hp (lo := 0) (top := 8) (by decide) (by decide) (v1 := 0) (v2 := 7) rfl (by decide) hN with ⟨q, a1, m1, a2, a3, a4⟩ | ⟨a, a1, m1, a2, a3, a4, a5⟩
  · rw [a2, bind_some', if_pos rfl, if_pos rfl]
    exact Or.inl ⟨q, bnS_l a1, m1, rfl, a3, a4⟩
  · have c1 := nbB_ok hL a1
    rw [a2, bind_some', if_neg (nI_neg _ (by omega)), bnS_r a1]
    rcases num8D hG hL a3 (by omega) (lo := 0) (top := 8) (by decide) (by decide) (v1 := 0) (v2 := 7) rfl (by decide) hN with ⟨q, b1, m2, b2, b3, b4⟩ | ⟨b, b1, m2, b2, b3, b4, b5⟩
    · rw [b2, bind_some', if_pos rfl]
      exact Or.inl ⟨q, bnS_l b1, m2, rfl, b3, Rf_t (Rd_f a5) b4⟩
    · have c2 := nbB_ok hL b1
      rw [b2, bind_some', if_neg (nI_neg _ (by omega)), bnS_r b1]
      by_cases y : a.1 = b.1
      · rw [if_pos y, if_pos (by rw [y])]
        refine Or.inl ⟨_, rfl, mj_wI m2 55 7 (nI (a.2 + 1)), ?_, wI_e, Rf_w (Rf_t (Rd_f a5) (Rd_f b5)) (by omega)⟩
        unfold f_X5_fail
        rw [b4, mw_eq, bind_some', mj_ck_t (show ((0 : Int32) &&& 1 == 0) = true by decide)]
      · rw [if_neg y, if_neg (fun z => y ((nI_eq (by omega) (by omega)).mp z)), a56_street (z_streets b3.2.1) hr, bind_some']
        refine Or.inr ⟨_, rfl, _, rfl, ⟨C8_w (C8_w (C8_w b3.1 (by omega)) (by omega)) (by omega), gd_street hG b3.2.1 hr (xS a.1 b.1), ?_, ?_⟩, Rf_w (Rf_w (Rf_w (Rf_t (Rd_f a5) (Rd_f b5)) (by omega)) (by omega)) (by omega)⟩
        · rw [wI_n (by omega), wI_n (by omega), wI_n (by omega)]; exact b3.2.2.1
        · exact RD_wX (RD_wX (RD_wX b3.2.2.2 (by omega)) (by omega)) (by omega)
theorem shake8 {m : mj_m} {t : aT} {u : Nat → Int32} {L : Nat → Int32} {n p : Nat} (hG : Good t) (hL : LL L n) (d : D8 m t u L n p) (hp : p ≤ n) (hr : t 13 2 < 4) {N : Nat} (hN : 20 ≤ N) : IT8 m u L n (skP L t p) (f_X5_readShake N m) := by
  unfold f_X5_readShake f_X5_readShake_24 skP
  rcases num8D hG hL d hp (lo := 0) (top := 100) (by decide) (by decide) (v1 := 0) (v2 := 99) rfl (by decide) hN with ⟨q, a1, m1, a2, a3, a4⟩ | ⟨a, a1, m1, a2, a3, a4, a5⟩
  · rw [a2, bind_some', if_pos rfl, if_pos rfl]
    exact Or.inl ⟨q, bnS_l a1, m1, rfl, a3, a4⟩
  · have c1 := nbB_ok hL a1
    rw [a2, bind_some', if_neg (nI_neg _ (by omega)), bnS_r a1]
    rcases num8D hG hL a3 (by omega) (lo := 0) (top := 10) (by decide) (by decide) (v1 := 0) (v2 := 9) rfl (by decide) hN with ⟨q, b1, m2, b2, b3, b4⟩ | ⟨b, b1, m2, b2, b3, b4, b5⟩
    · rw [b2, bind_some', if_pos rfl]
      exact Or.inl ⟨q, bnS_l b1, m2, rfl, b3, Rf_t (Rd_f a5) b4⟩
    · have c2 := nbB_ok hL b1
      rw [b2, bind_some', if_neg (nI_neg _ (by omega)), bnS_r b1, a56_shake (z_shakes b3.2.1) hr, bind_some']
      refine Or.inr ⟨_, rfl, _, rfl, ⟨C8_w (C8_w (C8_w b3.1 (by omega)) (by omega)) (by omega), gd_shake hG b3.2.1 hr (xK a.1 b.1), ?_, ?_⟩, Rf_w (Rf_w (Rf_w (Rf_t (Rd_f a5) (Rd_f b5)) (by omega)) (by omega)) (by omega)⟩
      · rw [wI_n (by omega), wI_n (by omega), wI_n (by omega)]; exact b3.2.2.1
      · exact RD_wX (RD_wX (RD_wX b3.2.2.2 (by omega)) (by omega)) (by omega)
theorem scal8 {m : mj_m} {t : aT} {u : Nat → Int32} {L : Nat → Int32} {n p lo top i : Nat} (hG : Good t) (hL : LL L n) (d : D8 m t u L n p) (hp : p ≤ n) (hlo : lo < 1000) (ht : top < 1001) {v1 v2 : Int32} (h1 : v1 = nI lo) (h2 : v2 = nI top - 1) (hi : 3 ≤ i ∧ i < 6) {N : Nat} (hN : 20 ≤ N) : IT8 m u L n (scP L t p lo top i) ((f_X5_readNumber N v1 v2 m).bind (fun r7 => mj_mw (mj_wI r7.2 56 (6 + i) r7.1) (fun m8 => if (m8.1 55 7) = (-1 : Int32) then ((some (1, m8))) else ((some (0, m8)))))) := by
  unfold scP
  have hn := hL.1
  rcases num8D hG hL d hp hlo ht h1 h2 hN with ⟨q, a1, m1, a2, a3, a4⟩ | ⟨a, a1, m1, a2, a3, a4, a5⟩
  · have := nbB_in a1
    rw [a2, bind_some', mw_eq, wI_n (by omega), a3, if_neg (nI_neg _ (by omega))]
    exact Or.inl ⟨q, bnS_l a1, _, rfl, by rw [wI_n (by omega)]; exact a3, Rf_w a4 (by omega)⟩
  · rw [a2, bind_some', mw_eq, wI_n (by omega), a3.2.2.1, if_pos rfl, bnS_r a1]
    refine Or.inr ⟨_, rfl, _, rfl, ⟨C8_w a3.1 (by omega), ?_, by rw [wI_n (by omega)]; exact a3.2.2.1, RD_wX a3.2.2.2 (by omega)⟩, Rf_w (Rd_f a5) (by omega)⟩
    exact Rep_sc a3.2.1 hG hi.1 (gA_w (ad := cA 56 63) (f := 13) (fun _ _ _ _ => cA_inj rfl) ⟨by decide, by simpa using hi.2⟩ rfl) rfl
