/-! THE CLASS SUMS: those without a front, and the fold -/
theorem lN10 : ∀ a, a ≤ 10 → lN (10 - a) = 10 - lN a := by decide +kernel
def hAN (f P : Nat → Int64) (fr : Nat → Bool) : Nat → Int64
  | 0 => 0
  | n + 1 => if fr n = true then hAN f P fr n else hAN f P fr n + 10 * f n * P n
def hCN (f P : Nat → Int64) (C : Int64) (fr : Nat → Bool) (cor : Nat → Nat) : Nat → Nat → Int64
  | 0, _ => 0
  | n + 1, c => if fr n = true then hCN f P C fr cor n c else if c = cor n then hCN f P C fr cor n c + C * (10 - f n) * P n else hCN f P C fr cor n c
def scN (A : Int64) (b H : Nat → Int64) : Nat → Int64
  | 0 => A
  | j + 1 => scN A b H j + b (j + 1) * H (j + 1)
theorem scN_add (A x y : Int64) (b H : Nat → Int64) (c : Nat) : ∀ j, scN (A + x) b (fun d => if d = c then H d + y else H d) j = scN A b H j + x + (if 1 ≤ c ∧ c ≤ j then b c * y else 0) := by
  intro j
  induction j with
  | zero => rw [if_neg (by omega)]; show A + x = A + x + 0; grind
  | succ j ih =>
    show scN (A + x) b _ j + b (j + 1) * (if j + 1 = c then H (j + 1) + y else H (j + 1)) = scN A b H j + b (j + 1) * H (j + 1) + x + _
    rw [ih]
    by_cases q : j + 1 = c
    · rw [if_pos q, if_neg (by omega), if_pos (by omega), ← q]; grind
    · rw [if_neg q]
      by_cases r : 1 ≤ c ∧ c ≤ j
      · rw [if_pos r, if_pos (by omega)]; grind
      · rw [if_neg r, if_neg (by omega)]; grind
theorem scN_ot (f P : Nat → Int64) (C : Int64) (fr : Nat → Bool) (cor : Nat → Nat) (cut : (Nat → Bool) → Nat → Bool) (s : Nat → Bool) (h0 : cut s 0 = false) (H : Nat) (hcor : ∀ n, n < H → cor n < 8) : ∀ n, n ≤ H → scN (hAN f P fr n) (fun c => if cut s c = true then 1 else 0) (hCN f P C fr cor n) 7 = otN f fr P C cor cut n s := by
  intro n
  induction n with
  | zero => intro _; show (0 : Int64) + _ * 0 + _ * 0 + _ * 0 + _ * 0 + _ * 0 + _ * 0 + _ * 0 = 0; grind
  | succ n ih =>
    intro hn
    have ih := ih (by omega)
    have hc := hcor n (by omega)
    by_cases q : fr n = true
    · rw [show hAN f P fr (n + 1) = hAN f P fr n from if_pos q, show hCN f P C fr cor (n + 1) = hCN f P C fr cor n from funext (fun c => if_pos q), show otN f fr P C cor cut (n + 1) s = otN f fr P C cor cut n s from if_pos q]
      exact ih
    · rw [show hAN f P fr (n + 1) = hAN f P fr n + 10 * f n * P n from if_neg q, show hCN f P C fr cor (n + 1) = (fun c => if c = cor n then hCN f P C fr cor n c + C * (10 - f n) * P n else hCN f P C fr cor n c) from funext (fun c => if_neg q), show otN f fr P C cor cut (n + 1) s = otN f fr P C cor cut n s + (10 * f n * P n + if cut s (cor n) = true then C * (10 - f n) * P n else 0) from if_neg q, scN_add, ih]
      by_cases y : cut s (cor n) = true
      · rw [if_pos (show 1 ≤ cor n ∧ cor n ≤ 7 from ⟨by
          rcases Nat.eq_zero_or_pos (cor n) with z | z
          · rw [z, h0] at y; cases y
          · exact z, by omega⟩), if_pos y, if_pos y]
        exact (by intro a b c; grind : ∀ a b c : Int64, a + b + 1 * c = a + (b + c)) _ _ _
      · rw [if_neg y, if_neg y]
        by_cases z : 1 ≤ cor n ∧ cor n ≤ 7
        · rw [if_pos z]; exact (by intro a b c; grind : ∀ a b c : Int64, a + b + 0 * c = a + (b + 0)) _ _ _
        · rw [if_neg z]; exact (by intro a b; grind : ∀ a b : Int64, a + b + 0 = a + (b + 0)) _ _
theorem wh_pow (fr : Nat → Bool) : ∀ n, ∃ j, j ≤ n ∧ whN fr n = lN (10 ^ j) := by
  intro n
  induction n with
  | zero => exact ⟨0, Nat.le_refl _, rfl⟩
  | succ n ih =>
    obtain ⟨j, h1, h2⟩ := ih
    by_cases q : fr n = true
    · exact ⟨j, by omega, by rw [whN_f q]; exact h2⟩
    · refine ⟨j + 1, by omega, ?_⟩
      rw [whN_o q, h2, Nat.pow_succ]
      exact (Int64.ofNat_mul (10 ^ j) 10).symm
theorem bt_cases (fr : Nat → Bool) : ∀ n, btN fr n = 0 ∨ ∃ j, j < n ∧ btN fr n = lN (10 ^ j) := by
  intro n
  induction n with
  | zero => exact Or.inl rfl
  | succ n ih =>
    by_cases q : fr n = true
    · rw [btN_f q]
      rcases ih with ih | ⟨j, h1, h2⟩
      · exact Or.inl ih
      · exact Or.inr ⟨j, by omega, h2⟩
    · rw [btN_o q]
      obtain ⟨j, h1, h2⟩ := wh_pow fr n
      exact Or.inr ⟨j, by omega, h2⟩
theorem cmp_pow : ∀ j, j < 10 → ¬ lg_cmp (lN (10 ^ j)) 0 ≤ 0 := by decide +kernel
theorem fillL {a n : Nat} (ha : a < 128) (hsh : mj_sh a = (1, n)) (hn : n < 1000) {N : Nat} (hN : 1100 ≤ N) (m : mj_m) (v : Int64) : ∃ m', f_J7_fill_d0a16 N a v m = some m' ∧ (∀ k, k < n → m'.2 a k = v) ∧ (∀ A k, A ≠ a → m'.2 A k = m.2 A k) ∧ m'.1 = m.1 := by
  unfold f_J7_fill_d0a16
  have ar : mj_ar 1 a = true := by unfold mj_ar; rw [hsh]; simp; omega
  rw [mj_ck_t ar, mw_eq, hsh]
  obtain ⟨s, ⟨-, h2, h3, h4⟩, h5⟩ := lp_cnt (B := f_J7_fill_d0a16_6 N a v (Int32.ofNat n)) (E := fun s => some s.2) (c := n) (N := N) (s0 := (0, m)) (fun i s => s.1 = nI i ∧ (∀ k, k < i → s.2.2 a k = v) ∧ (∀ A k, A ≠ a → s.2.2 A k = m.2 A k) ∧ s.2.1 = m.1) (by omega)
    ⟨rfl, fun k hk => absurd hk (Nat.not_lt_zero k), fun _ _ _ => rfl, rfl⟩
    (fun i s hi ⟨e1, e2, e3, e4⟩ => by
      refine ⟨(nI (i + 1), mj_wL s.2 a i v), ⟨rfl, fun k hk => ?_, fun A k hA => by rw [wL_n (by omega)]; exact e3 A k hA, e4⟩, fun k => ?_⟩
      · by_cases y : k = i
        · rw [y, wL_e]
        · rw [wL_n (by omega)]; exact e2 k (by omega)
      · unfold f_J7_fill_d0a16_6
        rw [e1, show Int32.ofNat n = nI n from rfl, if_neg (nI_ge hi (by omega)), mj_ck_t (b_nI ha hsh hi (by omega)), nI_clamp (by omega), mw_eq, mw_eq, nI_succ])
    (fun s ⟨e1, _, _, _⟩ k => by
      unfold f_J7_fill_d0a16_6
      rw [e1, show Int32.ofNat n = nI n from rfl, if_pos (nI_le (by omega) (by omega))])
  exact ⟨s.2, h5, h2, h3, h4⟩
/-- what a sum leaves alone: all but the falls, the sums, the harm if cut -/
def Os (m m' : mj_m) : Prop := (∀ a k, a ≠ 39 → m'.1 a k = m.1 a k) ∧ (∀ a k, a ≠ 43 → a ≠ 44 → m'.2 a k = m.2 a k)
theorem Os_r (m : mj_m) : Os m m := ⟨fun _ _ _ => rfl, fun _ _ _ _ => rfl⟩
theorem Os_t {m m' m'' : mj_m} (h : Os m m') (h' : Os m' m'') : Os m m'' := ⟨fun a k q => (h'.1 a k q).trans (h.1 a k q), fun a k q r => (h'.2 a k q r).trans (h.2 a k q r)⟩
theorem Os_O {m m' : mj_m} (h : Os m m') : Od m m' := ⟨fun a k q => h.1 a k (by omega), fun a k q => h.2 a k (by omega) (by omega)⟩
theorem Os_W {m m' : mj_m} {t : aT} {pe : Nat → Nat} {C : Int64} {hm : Nat → Int64} (h : Os m m') (w : Wst m t pe C hm) : Wst m' t pe C hm := by
  obtain ⟨w1, w2, w3, w4, w5, w6⟩ := w
  exact ⟨by rw [h.1 36 9 (by omega)]; exact w1, by rw [h.1 36 10 (by omega)]; exact w2, fun i x hi hx => by rw [h.1 37 i (by omega)]; exact w3 i x hi hx, fun i hi => by rw [h.1 38 i (by omega)]; exact w4 i hi, fun s hs => by rw [h.1 41 s (by omega)]; exact w5 s hs, fun s hs => by rw [h.2 42 s (by omega) (by omega)]; exact w6 s hs⟩
theorem others8 {m : mj_m} {t : aT} {u : Nat → Int32} (hG : Good t) (g : Rep (cg m 1 8) t u) {pe : Nat → Nat} (hpe : ∀ h, h < t 13 1 → pe h ≤ 990) {C : Int64} {hm : Nat → Int64} (w : Wst m t pe C hm) {fv : Nat → Nat} (hf : ∀ h, h < t 13 1 → m.1 39 h = nI (fv h) ∧ fv h ≤ 10) {N : Nat} (hN : 1100 ≤ N) :
    ∃ m', f_X2_addOthers N m = some m' ∧ Os m m' ∧ m'.1 = m.1 ∧ ∀ s, s < 2 ^ (LT t).length → m'.2 43 s = whN (frT t) (t 13 1) * hm s + btN (frT t) (t 13 1) * otN (fun h => lN (fv h)) (frT t) (fun h => lN (pe h)) C (t 0) (cutP t) (t 13 1) (mem (LT t) s) := by
  have ll := LT_len hG
  have gh := GH hG
  have p10 : 2 ^ (LT t).length ≤ 1024 := (Nat.pow_le_pow_right (by decide) ll : 2 ^ (LT t).length ≤ 2 ^ 10)
  obtain ⟨w1, w2, w3, w4, w5, w6⟩ := w
  obtain ⟨m1, a1, a2, a3, a4⟩ := fillL (a := 44) (n := 8) (by decide) rfl (by decide) hN m 0
  have o1 : Os m m1 := ⟨fun a k _ => by rw [a4], fun a k _ q => a3 a k q⟩
  unfold f_X2_addOthers
  rw [a1, bind_some']
  generalize hF : (fun h => lN (fv h)) = F
  generalize hP : (fun h => lN (pe h)) = P
  have hF' : ∀ h, F h = lN (fv h) := fun h => by rw [← hF]
  have hP' : ∀ h, P h = lN (pe h) := fun h => by rw [← hP]
  obtain ⟨s, ⟨-, b2, b3, b4, b5, b6⟩, b7⟩ := lp_cnt (B := f_X2_addOthers_18 N) (E := fun s => mj_lp N (f_X2_addOthers_132 N s.1 s.2.1 s.2.2.1) (0, s.2.2.2.2)) (c := t 13 1) (N := N) (s0 := (0, 1, 0, 0, m1)) (fun i s => s.2.2.2.1 = nI i ∧ s.1 = hAN F P (frT t) i ∧ s.2.1 = whN (frT t) i ∧ s.2.2.1 = btN (frT t) i ∧ (Os m s.2.2.2.2 ∧ s.2.2.2.2.1 = m.1) ∧ ∀ c, c < 8 → s.2.2.2.2.2 44 c = hCN F P C (frT t) (t 0) i c) (by omega)
    ⟨rfl, rfl, rfl, rfl, ⟨o1, a4⟩, fun c hc => a2 c hc⟩
    (fun i s hi ⟨e1, e2, e3, e4, ⟨e5, e5'⟩, e6⟩ => by
      have cor := (hG.2.1 i hi).1
      obtain ⟨f1, f2⟩ := hf i hi
      have p1 := hpe i hi
      by_cases q : t 5 i = 0
      · have q' : ¬ frT t i = true := fun z => (of_decide_eq_true z) q
        refine ⟨(hAN F P (frT t) (i + 1), whN (frT t) (i + 1), btN (frT t) (i + 1), nI (i + 1), mj_wL s.2.2.2.2 44 (t 0 i) (hCN F P C (frT t) (t 0) (i + 1) (t 0 i))), ⟨rfl, rfl, rfl, rfl, ⟨Os_t e5 ⟨fun _ _ _ => rfl, fun a k y1 y2 => wL_n (by omega)⟩, e5'⟩, fun c hc => ?_⟩, fun k => ?_⟩
        · by_cases y : c = t 0 i
          · rw [y, wL_e]
          · rw [wL_n (by omega), e6 c hc]
            show _ = if frT t i = true then _ else if c = t 0 i then _ else _
            rw [if_neg q', if_neg y]
        · have v1 : hAN F P (frT t) (i + 1) = hAN F P (frT t) i + 10 * F i * P i := if_neg q'
          have v2 : hCN F P C (frT t) (t 0) (i + 1) (t 0 i) = hCN F P C (frT t) (t 0) i (t 0 i) + C * (10 - F i) * P i := by
            show (if frT t i = true then _ else if t 0 i = t 0 i then _ else _) = _
            rw [if_neg q', if_pos rfl]
          rw [v1, v2, whN_o q', btN_o q']
          unfold f_X2_addOthers_18 f_X2_addOthers_123
          rw [e1, e2, e3, e5', x_houses g, if_neg (nI_ge hi (by omega)), mj_ck_t (bb_4 (by omega)), nI_clamp (show i < 2 ^ 31 by omega), x_front g hi, q, if_pos (by decide), mj_ck_t (bb_39 (by omega)), mj_ck_t (bb_38 (by omega)), f1, w4 i hi, x_corner g hi, mw_eq, mj_ck_t (bb_44 cor), nI_clamp (show t 0 i < 2 ^ 31 by omega), e6 _ cor, w2, ten_sub f2, nI_l (show fv i < 2 ^ 31 by omega), nI_l (show pe i < 2 ^ 31 by omega), nI_l (show 10 - fv i < 2 ^ 31 by omega), lN10 _ f2, ← hF', ← hP', mw_eq, mw_eq, mw_eq, nI_succ]
      · have q' : frT t i = true := decide_eq_true q
        have w5' := (hG.2.1 i hi).2.2.2.2.2.1
        have gS := GS hG
        obtain ⟨j, hj⟩ : ∃ j, t 5 i = j + 1 := ⟨t 5 i - 1, by omega⟩
        refine ⟨(s.1, s.2.1, s.2.2.1, nI (i + 1), s.2.2.2.2), ⟨rfl, ?_, ?_, ?_, ⟨e5, e5'⟩, fun c hc => ?_⟩, fun k => ?_⟩
        · exact e2.trans (if_pos q' : hAN F P (frT t) (i + 1) = _).symm
        · exact e3.trans (whN_f q').symm
        · exact e4.trans (btN_f q').symm
        · exact (e6 c hc).trans (if_pos q' : hCN F P C (frT t) (t 0) (i + 1) c = _).symm
        · unfold f_X2_addOthers_18 f_X2_addOthers_123
          rw [e1, e5', x_houses g, if_neg (nI_ge hi (by omega)), mj_ck_t (bb_4 (by omega)), nI_clamp (show i < 2 ^ 31 by omega), x_front g hi, hj, nI_pred, if_neg (nI_neg j (by omega)), mw_eq, nI_succ])
    (fun s ⟨e1, _, _, _, ⟨_, e5'⟩, _⟩ k => by
      unfold f_X2_addOthers_18
      rw [e1, e5', x_houses g, if_pos (nI_le (by omega) (by omega))])
  rw [b7, b2, b3, b4]
  have inner : ∀ (r : Nat) (m2 : mj_m), r < 2 ^ (LT t).length → m2.1 = m.1 → (∀ c, c < 8 → m2.2 44 c = hCN F P C (frT t) (t 0) (t 13 1) c) → ∃ v : Int64, v * btN (frT t) (t 13 1) = btN (frT t) (t 13 1) * otN F (frT t) P C (t 0) (cutP t) (t 13 1) (mem (LT t) r) ∧ ∀ k, mj_lp N (f_X2_addOthers_149 N k (hAN F P (frT t) (t 13 1)) (whN (frT t) (t 13 1)) (btN (frT t) (t 13 1)) (nI r) m2) (hAN F P (frT t) (t 13 1), 1) = f_X2_addOthers_195 N k (hAN F P (frT t) (t 13 1)) (whN (frT t) (t 13 1)) (btN (frT t) (t 13 1)) (nI r) v m2 := by
    intro r m2 hr h1 h2
    have b0 : cutP t (mem (LT t) r) 0 = false := by rw [cutP_mem]; exact cut_bit0 t _
    have ot := scN_ot F P C (frT t) (t 0) (cutP t) (mem (LT t) r) b0 (t 13 1) (fun n hn => (hG.2.1 n hn).1) (t 13 1) (Nat.le_refl _)
    rcases bt_cases (frT t) (t 13 1) with z | ⟨j, z1, z2⟩
    · refine ⟨hAN F P (frT t) (t 13 1), by rw [z]; exact (by intro a b; grind : ∀ a b : Int64, a * 0 = 0 * b) _ _, fun k => ?_⟩
      obtain ⟨N, rfl⟩ : ∃ n, N = n + 1 := ⟨N - 1, by omega⟩
      show f_X2_addOthers_149 (N + 1) k _ _ _ (nI r) m2 (mj_lp N _) (hAN F P (frT t) (t 13 1), 1) = _
      rw [z]
      unfold f_X2_addOthers_149
      rw [if_pos (by decide)]
    · refine ⟨otN F (frT t) P C (t 0) (cutP t) (t 13 1) (mem (LT t) r), Int64.mul_comm _ _, fun k => ?_⟩
      have cp := cmp_pow j (by omega)
      obtain ⟨s, ⟨e1, e2⟩, e3⟩ := lp_cnt (B := f_X2_addOthers_149 N k (hAN F P (frT t) (t 13 1)) (whN (frT t) (t 13 1)) (btN (frT t) (t 13 1)) (nI r) m2) (E := fun s => f_X2_addOthers_195 N k (hAN F P (frT t) (t 13 1)) (whN (frT t) (t 13 1)) (btN (frT t) (t 13 1)) (nI r) s.1 m2) (c := 7) (N := N) (s0 := (hAN F P (frT t) (t 13 1), 1)) (fun i s => s.2 = nI (i + 1) ∧ s.1 = scN (hAN F P (frT t) (t 13 1)) (fun c => if cutP t (mem (LT t) r) c = true then 1 else 0) (hCN F P C (frT t) (t 0) (t 13 1)) i) (by omega)
        ⟨rfl, rfl⟩
        (fun i s hi ⟨e1, e2⟩ => by
          refine ⟨(scN (hAN F P (frT t) (t 13 1)) (fun c => if cutP t (mem (LT t) r) c = true then 1 else 0) (hCN F P C (frT t) (t 0) (t 13 1)) (i + 1), nI (i + 1 + 1)), ⟨rfl, rfl⟩, fun k => ?_⟩
          unfold f_X2_addOthers_149
          rw [z2, if_neg cp, e1, if_neg (show ¬ 8 ≤ nI (i + 1) from (nI_ge (by omega) (by omega) : ¬ nI 8 ≤ nI (i + 1))), mj_ck_t (bb_41 (by omega)), mj_ck_t (bb_44 (by omega)), nI_clamp (by omega), nI_clamp (by omega), h1, w5 r hr, n_bit _ (by omega), h2 _ (by omega), mw_eq, mw_eq, e2, nI_succ (i + 1)]
          show k (_, _) = k (scN _ _ _ i + (if cutP t (mem (LT t) r) (i + 1) = true then 1 else 0) * _, _)
          rw [cutP_mem]
          by_cases y : (cutN t (sbN t (LT t) r)).testBit (i + 1) = true
          · rw [if_pos y, if_pos y]; rfl
          · rw [if_neg y, if_neg y]; rfl)
        (fun s ⟨e1, e2⟩ k => by
          unfold f_X2_addOthers_149
          rw [z2, if_neg cp, e1, if_pos (by decide)])
      rw [e3, e2, ot]
  obtain ⟨s', ⟨-, d2, d3, d4, d5⟩, d6⟩ := lp_cnt (B := f_X2_addOthers_132 N (hAN F P (frT t) (t 13 1)) (whN (frT t) (t 13 1)) (btN (frT t) (t 13 1))) (E := fun s => some s.2) (c := 2 ^ (LT t).length) (N := N) (s0 := (0, s.2.2.2.2)) (fun i s' => s'.1 = nI i ∧ (∀ r, r < i → s'.2.2 43 r = whN (frT t) (t 13 1) * hm r + btN (frT t) (t 13 1) * otN F (frT t) P C (t 0) (cutP t) (t 13 1) (mem (LT t) r)) ∧ Os m s'.2 ∧ s'.2.1 = m.1 ∧ ∀ c, c < 8 → s'.2.2 44 c = hCN F P C (frT t) (t 0) (t 13 1) c) (by omega)
    ⟨rfl, fun r hr => absurd hr (Nat.not_lt_zero r), b5.1, b5.2, b6⟩
    (fun i s' hi ⟨e1, e2, e3, e4, e5⟩ => by
      obtain ⟨v, v1, v2⟩ := inner i s'.2 hi e4 e5
      refine ⟨(nI (i + 1), mj_wL s'.2 43 i (hm i * whN (frT t) (t 13 1) + v * btN (frT t) (t 13 1))), ⟨rfl, fun r hr => ?_, Os_t e3 ⟨fun _ _ _ => rfl, fun a k y1 y2 => wL_n (by omega)⟩, e4, fun c hc => by rw [wL_n (by omega)]; exact e5 c hc⟩, fun k => ?_⟩
      · by_cases y : r = i
        · rw [y, wL_e, v1, Int64.mul_comm (hm i)]
        · rw [wL_n (by omega)]; exact e2 r (by omega)
      · unfold f_X2_addOthers_132
        rw [e4, w1, n_shl _ (by omega), e1, if_neg (nI_ge hi (by omega)), v2]
        unfold f_X2_addOthers_195
        rw [mj_ck_t (bb_42 (by omega)), mj_ck_t (bb_43 (by omega)), nI_clamp (by omega), e3.2 42 i (by omega) (by omega), w6 i hi, mw_eq, mw_eq, nI_succ])
    (fun s' ⟨e1, _, _, e4, _⟩ k => by
      unfold f_X2_addOthers_132
      rw [e4, w1, n_shl _ (by omega), e1, if_pos (nI_le (by omega) (by omega))])
  exact ⟨s'.2, d6, d3, d4, d2⟩
