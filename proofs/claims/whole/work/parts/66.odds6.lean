/-! THE CLASS SUMS, further: the fold; the mean of a year -/
theorem m1_sub (i : Nat) : nI i + (-1) = nI i - 1 := by grind
theorem fold8 {m2 : mj_m} {L : List Nat} (ll : L.length ≤ 10) (hC : Cells m2 L) (F : Nat → Int64) {fv : Nat → Nat} (hL : ∀ x, x ∈ L → x < 10 ∧ m2.1 39 x = nI (fv x) ∧ fv x ≤ 10 ∧ F x = lN (fv x)) {a : Nat → Int64} (ha : ∀ r, r < 2 ^ L.length → m2.2 43 r = a r) {N : Nat} (hN : 1100 ≤ N) : ∃ m', mj_lp N (f_X2_sumOver_46 N) (nI L.length - 1, m2) = some (FoL F L a, m') ∧ m'.1 = m2.1 ∧ (∀ A k, A ≠ 43 → m'.2 A k = m2.2 A k) := by
  have inner : ∀ (i x : Nat) (m1 : mj_m) (b : Nat → Int64), i < 10 → x < 10 → fv x ≤ 10 → F x = lN (fv x) → (∀ r, r < 2 ^ (i + 1) → m1.2 43 r = b r) → ∃ m' : mj_m, (∀ r, r < 2 ^ i → m'.2 43 r = b r * (10 - F x) + b (2 ^ i + r) * F x) ∧ m'.1 = m1.1 ∧ (∀ A k, A ≠ 43 → m'.2 A k = m1.2 A k) ∧ ∀ κ : Int32 × mj_m → Option (Int64 × mj_m), mj_lp N (f_X2_sumOver_78 N κ (nI i) (nI (fv x)) (nI (10 - fv x)) (nI (2 ^ i))) (0, m1) = κ (nI i - 1, m') := by
    intro i x m1 b hi hx hf hF hb
    have p10 : 2 ^ (i + 1) ≤ 1024 := (Nat.pow_le_pow_right (by decide) (by omega) : 2 ^ (i + 1) ≤ 2 ^ 10)
    have p2 : 2 ^ (i + 1) = 2 ^ i + 2 ^ i := by rw [Nat.pow_succ]; omega
    obtain ⟨s, ⟨-, r2, r3, r4, r5⟩, r6⟩ := lp_cntK (K := Int32 × mj_m → Option (Int64 × mj_m)) (B := fun κ => f_X2_sumOver_78 N κ (nI i) (nI (fv x)) (nI (10 - fv x)) (nI (2 ^ i))) (E := fun κ s => κ (nI i - 1, s.2)) (c := 2 ^ i) (N := N) (s0 := (0, m1)) (fun j s => s.1 = nI j ∧ (∀ r, r < j → s.2.2 43 r = b r * (10 - F x) + b (2 ^ i + r) * F x) ∧ (∀ r, j ≤ r → r < 2 ^ (i + 1) → s.2.2 43 r = b r) ∧ s.2.1 = m1.1 ∧ (∀ A k, A ≠ 43 → s.2.2 A k = m1.2 A k)) (by omega)
      ⟨rfl, fun r hr => absurd hr (Nat.not_lt_zero r), fun r _ hr => hb r hr, rfl, fun _ _ _ => rfl⟩
      (fun j s hj ⟨e1, e2, e3, e4, e5⟩ => by
        refine ⟨(nI (j + 1), mj_wL s.2 43 j (b j * (10 - F x) + b (2 ^ i + j) * F x)), ⟨rfl, fun r hr => ?_, fun r h1 h2 => ?_, e4, fun A k hA => by rw [wL_n (by omega)]; exact e5 A k hA⟩, fun κ k => ?_⟩
        · by_cases y : r = j
          · rw [y, wL_e]
          · rw [wL_n (by omega)]; exact e2 r (by omega)
        · rw [wL_n (by omega)]; exact e3 r (by omega) h2
        · unfold f_X2_sumOver_78
          rw [e1, if_neg (nI_ge hj (by omega)), nI_add, mj_ck_t (bb_43 (by omega)), mj_ck_t (bb_43 (by omega)), nI_clamp (show j < 2 ^ 31 by omega), nI_clamp (show 2 ^ i + j < 2 ^ 31 by omega), e3 j (by omega) (by omega), e3 (2 ^ i + j) (by omega) (by omega), nI_l (show fv x < 2 ^ 31 by omega), nI_l (show 10 - fv x < 2 ^ 31 by omega), lN10 _ hf, ← hF, mw_eq, mw_eq, nI_succ])
      (fun s ⟨e1, _, _, _, _⟩ κ k => by
        unfold f_X2_sumOver_78
        rw [e1, if_pos (nI_le (by omega) (by omega)), mw_eq, m1_sub])
    exact ⟨s.2, r2, r4, r5, r6⟩
  obtain ⟨s, ⟨e1, e2, e3, b, e4, e5⟩, e6⟩ := lp_cnt (B := f_X2_sumOver_46 N) (E := fun s => some (s.2.2 43 (0 : Int32).toNatClampNeg, s.2)) (c := L.length) (N := N) (s0 := (nI L.length - 1, m2)) (fun j s => s.1 = nI (L.length - j) - 1 ∧ s.2.1 = m2.1 ∧ (∀ A k, A ≠ 43 → s.2.2 A k = m2.2 A k) ∧ ∃ b, (∀ r, r < 2 ^ (L.length - j) → s.2.2 43 r = b r) ∧ FoL F (sfx L (L.length - j)) b = FoL F L a) (by omega)
    ⟨by rw [Nat.sub_zero], rfl, fun _ _ _ => rfl, a, by rw [Nat.sub_zero]; exact ha, by rw [Nat.sub_zero, sfx_all]⟩
    (fun j s hj ⟨e1, e2, e3, b, e4, e5⟩ => by
      obtain ⟨i, hi⟩ : ∃ i, L.length - j = i + 1 := ⟨L.length - j - 1, by omega⟩
      have hi' : L.length - (j + 1) = i := by omega
      rw [hi] at e1 e4 e5
      obtain ⟨x, hx, xl⟩ := sfx_s (L := L) (i := i) (by omega)
      obtain ⟨x1, x2, x3, x4⟩ := hL x xl
      obtain ⟨m', r1, r2, r3, r4⟩ := inner i x s.2 b (by omega) x1 x3 x4 e4
      refine ⟨(nI i - 1, m'), ⟨by rw [hi'], r2.trans e2, fun A k hA => (r3 A k hA).trans (e3 A k hA), fun r => b r * (10 - F x) + b (2 ^ i + r) * F x, by rw [hi']; exact r1, ?_⟩, fun k => ?_⟩
      · rw [hi', ← e5, hx]
        show _ = FoL F (sfx L i) (fun s => b s * (10 - F x) + b (2 ^ (sfx L i).length + s) * F x)
        rw [sfx_len (by omega)]
      · unfold f_X2_sumOver_46
        rw [e1, nI_pred, if_neg (nI_pos (by omega)), mj_ck_t (bb_37 (by omega)), nI_clamp (show i < 2 ^ 31 by omega), e2, hC i x (by omega) hx, mj_ck_t (bb_39 (by omega)), nI_clamp (show x < 2 ^ 31 by omega), x2, mw_eq, mw_eq, n_shl i (by omega), mw_eq, ten_sub x3]
        exact r4 k)
    (fun s ⟨e1, _, _, _⟩ k => by
      unfold f_X2_sumOver_46
      rw [e1, Nat.sub_self, if_pos (by decide), mj_ck_t (by decide)])
  rw [Nat.sub_self] at e4 e5
  refine ⟨s.2, ?_, e2, e3⟩
  rw [e6, ← e5, sfx_0]
  show some (s.2.2 43 0, s.2) = some (b 0, s.2)
  rw [e4 0 (by decide)]
theorem sum8 {m : mj_m} {t : aT} {u : Nat → Int32} (hG : Good t) (g : Rep (cg m 1 8) t u) {pe : Nat → Nat} (hpe : ∀ h, h < t 13 1 → pe h ≤ 990) {C : Int64} {hm : Nat → Int64} {base : W1} (hb : ∀ h s, frT t h = false → base (ins h s) = base s) (w : Wst m t pe C hm) (hv : ∀ s, s < 2 ^ (LT t).length → hm s = hmL (fun h => lN (pe h)) C t base (LT t) (mem (LT t) s)) {A : Nat} {st : Nat → Nat} (hA : A ≠ 39) (hs : StA m A t st) {k : Nat} (hk : k < t 13 2) {N : Nat} (hN : 1100 ≤ N) : ∃ m', f_X2_sumOver N (nI k) A m = some (SVal t st k (fun h => lN (pe h)) C base, m') ∧ Os m m' := by
  have ll := LT_len hG
  have gh := GH hG
  unfold f_X2_sumOver
  obtain ⟨s, ⟨-, b2, b3⟩, b4⟩ := lp_cnt (B := f_X2_sumOver_2 N (nI k) A) (E := fun s => (f_X2_addOthers N s.2).bind (fun r2 => mj_mw ((r2.1 36 9) - 1) (fun x3 => mj_lp N (f_X2_sumOver_46 N) (x3, r2)))) (c := t 13 1) (N := N) (s0 := (0, m)) (fun i s => s.1 = nI i ∧ (∀ h, h < i → s.2.1 39 h = nI (fN t st h k)) ∧ Os m s.2) (by omega)
    ⟨rfl, fun h hh => absurd hh (Nat.not_lt_zero h), Os_r m⟩
    (fun i s hi ⟨e1, e2, e3⟩ => by
      have gs := Od_c hG g (Os_O e3)
      have ss : StA s.2 A t st := ⟨hs.1, fun j hj => by rw [e3.1 A j hA]; exact hs.2 j hj⟩
      refine ⟨(nI (i + 1), mj_wI s.2 39 i (nI (fN t st i k))), ⟨rfl, fun h hh => ?_, Os_t e3 ⟨fun a k' q => wI_n (by omega), fun _ _ _ _ => rfl⟩⟩, fun k' => ?_⟩
      · by_cases y : h = i
        · rw [y, wI_e]
        · rw [wI_n (by omega)]; exact e2 h (by omega)
      · unfold f_X2_sumOver_2
        rw [x_houses gs, e1, if_neg (nI_ge hi (by omega)), tenths8 hG gs ss hi hk, bind_some', mj_ck_t (bb_39 (by omega)), nI_clamp (by omega), mw_eq, mw_eq, nI_succ])
    (fun s ⟨e1, _, e3⟩ k' => by
      have gs := Od_c hG g (Os_O e3)
      unfold f_X2_sumOver_2
      rw [x_houses gs, e1, if_pos (nI_le (by omega) (by omega))])
  rw [b4]
  have gs := Od_c hG g (Os_O b3)
  have ws := Os_W b3 w
  obtain ⟨m2, c1, c2, c3, c4⟩ := others8 hG gs hpe ws (fv := fun h => fN t st h k) (fun h hh => ⟨b2 h hh, fN_le _ _ _ _⟩) hN
  have w2 := Os_W c2 ws
  obtain ⟨m3, d1, d2, d3⟩ := fold8 ll w2.2.2.1 (fun h => lN (fN t st h k)) (fv := fun h => fN t st h k) (fun x xl => by
    have xh := (frL_lt _ _ _ xl).1
    exact ⟨by omega, by rw [c3]; exact b2 x xh, fN_le _ _ _ _, rfl⟩) c4 hN
  refine ⟨m3, ?_, Os_t b3 (Os_t c2 ⟨fun a k' _ => by rw [d2], fun a k' q1 q2 => d3 a k' q1⟩)⟩
  rw [c1, bind_some', mw_eq, w2.1, d1, fold_val t st k _ C base hb _ (fun s hs => by rw [hv s hs])]
/-- the mean over the shakes -/
def MV (t : aT) (st : Nat → Nat) (P : Nat → Int64) (C : Int64) (base : W1) : Nat → Int64
  | 0 => 0
  | n + 1 => if t 11 n = 0 then MV t st P C base n else MV t st P C base n + lN (t 11 n) * SVal t st n P C base
theorem mean8 {m : mj_m} {t : aT} {u : Nat → Int32} (hG : Good t) (g : Rep (cg m 1 8) t u) {pe : Nat → Nat} (hpe : ∀ h, h < t 13 1 → pe h ≤ 990) {C : Int64} {hm : Nat → Int64} {base : W1} (hb : ∀ h s, frT t h = false → base (ins h s) = base s) (w : Wst m t pe C hm) (hv : ∀ s, s < 2 ^ (LT t).length → hm s = hmL (fun h => lN (pe h)) C t base (LT t) (mem (LT t) s)) {A : Nat} {st : Nat → Nat} (hA : A ≠ 39) (hs : StA m A t st) {N : Nat} (hN : 1100 ≤ N) : ∃ m', f_X2_meanBy N A m = some (MV t st (fun h => lN (pe h)) C base (t 13 2), m') ∧ Os m m' := by
  have gk := GK hG
  unfold f_X2_meanBy
  obtain ⟨s, ⟨-, b2, b3⟩, b4⟩ := lp_cnt (B := f_X2_meanBy_5 N A) (E := fun s => some (s.1, s.2.2)) (c := t 13 2) (N := N) (s0 := (0, 0, m)) (fun i s => s.2.1 = nI i ∧ s.1 = MV t st (fun h => lN (pe h)) C base i ∧ Os m s.2.2) (by omega)
    ⟨rfl, rfl, Os_r m⟩
    (fun i s hi ⟨e1, e2, e3⟩ => by
      have gs := Od_c hG g (Os_O e3)
      have ss : StA s.2.2 A t st := ⟨hs.1, fun j hj => by rw [e3.1 A j hA]; exact hs.2 j hj⟩
      have ch := (hG.2.2.2 i hi).1
      by_cases q : t 11 i = 0
      · refine ⟨(s.1, nI (i + 1), s.2.2), ⟨rfl, e2.trans (if_pos q : MV t st (fun h => lN (pe h)) C base (i + 1) = _).symm, e3⟩, fun k => ?_⟩
        unfold f_X2_meanBy_5 f_X2_meanBy_52
        rw [x_shakes gs, e1, if_neg (nI_ge hi (by omega)), mj_ck_t (bb_6 (by omega)), nI_clamp (by omega), x_chance gs hi, q, if_pos (by decide), mw_eq, nI_succ]
      · obtain ⟨m', r1, r2⟩ := sum8 hG gs hpe hb (Os_W e3 w) hv hA ss hi hN
        refine ⟨(MV t st (fun h => lN (pe h)) C base (i + 1), nI (i + 1), m'), ⟨rfl, rfl, Os_t e3 r2⟩, fun k => ?_⟩
        have e : MV t st (fun h => lN (pe h)) C base (i + 1) = MV t st (fun h => lN (pe h)) C base i + lN (t 11 i) * SVal t st i (fun h => lN (pe h)) C base := if_neg q
        unfold f_X2_meanBy_5 f_X2_meanBy_52
        rw [x_shakes gs, e1, if_neg (nI_ge hi (by omega)), mj_ck_t (bb_6 (by omega)), nI_clamp (by omega), x_chance gs hi, if_neg (show ¬ nI (t 11 i) ≤ 0 from (nI_ge (show 0 < t 11 i by omega) (by omega) : ¬ nI (t 11 i) ≤ nI 0)), r1, bind_some', mw_eq, mw_eq, e2, nI_l (by omega), e, nI_succ])
    (fun s ⟨e1, _, e3⟩ k => by
      have gs := Od_c hG g (Os_O e3)
      unfold f_X2_meanBy_5
      rw [x_shakes gs, e1, if_pos (nI_le (by omega) (by omega))])
  exact ⟨s.2.2, by rw [b4, b2], b3⟩
