/-! THE CLASS WEIGHS: fronted houses, cuts by sets, harm -/
theorem lp_cntK {S A K : Type} {B : K → (S → Option A) → S → Option A} (I : Nat → S → Prop) {E : K → S → Option A} {c N : Nat} (hN : c < N) {s0 : S} (h0 : I 0 s0) (hs : ∀ i s, i < c → I i s → ∃ s', I (i + 1) s' ∧ ∀ κ k, B κ k s = k s') (he : ∀ s, I c s → ∀ κ k, B κ k s = E κ s) : ∃ s, I c s ∧ ∀ κ, mj_lp N (B κ) s0 = E κ s := by
  have H : ∀ (d i M : Nat) (s : S), i + d = c → d < M → I i s → ∃ s', I c s' ∧ ∀ κ, mj_lp M (B κ) s = E κ s' := by
    intro d
    induction d with
    | zero =>
      intro i M s h1 h2 h3
      obtain ⟨M, rfl⟩ : ∃ k, M = k + 1 := ⟨M - 1, by omega⟩
      have : i = c := by omega
      subst this
      exact ⟨s, h3, fun κ => he s h3 κ _⟩
    | succ d ih =>
      intro i M s h1 h2 h3
      obtain ⟨M, rfl⟩ : ∃ k, M = k + 1 := ⟨M - 1, by omega⟩
      obtain ⟨s', h4, h5⟩ := hs i s (by omega) h3
      obtain ⟨s2, h6, h7⟩ := ih (i + 1) M s' (by omega) (by omega) h4
      exact ⟨s2, h6, fun κ => (h5 κ _).trans (h7 κ)⟩
  exact H c 0 N s0 (by omega) hN h0
def Od (m m' : mj_m) : Prop := (∀ a k, (a < 36 ∨ 45 ≤ a) → m'.1 a k = m.1 a k) ∧ (∀ a k, (a < 42 ∨ 45 ≤ a) → m'.2 a k = m.2 a k)
theorem Od_r (m : mj_m) : Od m m := ⟨fun _ _ _ => rfl, fun _ _ _ => rfl⟩
theorem Od_t {m m' m'' : mj_m} (h : Od m m') (h' : Od m' m'') : Od m m'' := ⟨fun a k q => (h'.1 a k q).trans (h.1 a k q), fun a k q => (h'.2 a k q).trans (h.2 a k q)⟩
theorem Od_w {m m' : mj_m} {a k : Nat} {v : Int32} (h : Od m m') (q : 36 ≤ a ∧ a < 45) : Od m (mj_wI m' a k v) := Od_t h ⟨fun b j hb => wI_n (by omega), fun _ _ _ => rfl⟩
theorem Od_L {m m' : mj_m} {a k : Nat} {v : Int64} (h : Od m m') (q : 42 ≤ a ∧ a < 45) : Od m (mj_wL m' a k v) := Od_t h ⟨fun _ _ _ => rfl, fun b j hb => wL_n (by omega)⟩
theorem Od_c {m m' : mj_m} {t : aT} {u : Nat → Int32} (hG : Good t) (h : Rep (cg m 1 8) t u) (e : Od m m') : Rep (cg m' 1 8) t u := RT_c hG h (fun a k q => e.1 a k (by unfold okC at q; omega))
theorem Od_E {m m' : mj_m} (e : Od m m') : Eqs okA m m' := ⟨fun a k q => e.1 a k (by unfold okA okN okC okM at q; omega), fun a k q => e.2 a k (by unfold okL at q; omega)⟩
theorem LT_len {t : aT} (hG : Good t) : (LT t).length ≤ 10 := Nat.le_trans (frL_len _ _) (GH hG)
theorem fronted8 {m : mj_m} {t : aT} {u : Nat → Int32} (hG : Good t) (g : Rep (cg m 1 8) t u) {N : Nat} (hN : 20 ≤ N) : ∃ m', f_X2_findFronted N m = some m' ∧ m'.1 36 9 = nI (LT t).length ∧ Cells m' (LT t) ∧ Od m m' ∧ m'.2 = m.2 := by
  have gh := GH hG
  unfold f_X2_findFronted
  rw [mw_eq]
  obtain ⟨s, ⟨-, h2, h3, h4, h5⟩, h6⟩ := lp_cnt (B := f_X2_findFronted_7 N) (E := fun s => some s.2) (c := t 13 1) (N := N) (s0 := (0, mj_wI m 36 9 0)) (fun i s => s.1 = nI i ∧ s.2.1 36 9 = nI (frL (frT t) i).length ∧ Cells s.2 (frL (frT t) i) ∧ Od m s.2 ∧ s.2.2 = m.2) (by omega)
    ⟨rfl, wI_e, fun i x hi => absurd hi (Nat.not_lt_zero i), Od_w (Od_r m) (by omega), rfl⟩
    (fun i s hi ⟨e1, e2, e3, e4, e5⟩ => by
      have ll := frL_len (frT t) i
      have gs := Od_c hG g e4
      by_cases q : t 5 i = 0
      · have q' : ¬ frT t i = true := fun z => (of_decide_eq_true z) q
        refine ⟨(nI (i + 1), s.2), ⟨rfl, ?_, ?_, e4, e5⟩, fun k => ?_⟩
        · rw [show frL (frT t) (i + 1) = frL (frT t) i from if_neg q']; exact e2
        · rw [show frL (frT t) (i + 1) = frL (frT t) i from if_neg q']; exact e3
        · unfold f_X2_findFronted_7 f_X2_findFronted_54
          rw [x_houses gs, e1, if_neg (nI_ge hi (by omega)), mj_ck_t (bb_4 (by omega)), nI_clamp (by omega), x_front gs hi, q, if_pos (by decide), mw_eq, nI_succ]
      · have q' : frT t i = true := decide_eq_true q
        refine ⟨(nI (i + 1), mj_wI (mj_wI s.2 37 (frL (frT t) i).length (nI i)) 36 9 (nI ((frL (frT t) i).length + 1))), ⟨rfl, ?_, ?_, Od_w (Od_w e4 (by omega)) (by omega), e5⟩, fun k => ?_⟩
        · rw [show frL (frT t) (i + 1) = i :: frL (frT t) i from if_pos q']; exact wI_e
        · rw [show frL (frT t) (i + 1) = i :: frL (frT t) i from if_pos q']
          intro j x hj hx
          rw [wI_n (by omega)]
          by_cases y : j = (frL (frT t) i).length
          · subst y
            rw [show (frL (frT t) i).length + 1 = (i :: frL (frT t) i).length from rfl, sfx_all, sfx_c i _ (Nat.le_refl _), sfx_all] at hx
            rw [wI_e, (List.cons.inj hx).1]
          · have hj' : j < (frL (frT t) i).length := by rw [List.length_cons] at hj; omega
            rw [wI_n (by omega)]
            rw [sfx_c i _ (by omega), sfx_c i _ (by omega)] at hx
            exact e3 j x hj' hx
        · obtain ⟨j, hj⟩ : ∃ j, t 5 i = j + 1 := ⟨t 5 i - 1, by omega⟩
          have w5 := (hG.2.1 i hi).2.2.2.2.2.1
          have gS := GS hG
          unfold f_X2_findFronted_7 f_X2_findFronted_54
          rw [x_houses gs, e1, if_neg (nI_ge hi (by omega)), mj_ck_t (bb_4 (by omega)), nI_clamp (show i < 2 ^ 31 by omega), x_front gs hi, hj, nI_pred, if_neg (nI_neg j (by omega)), e2, mj_ck_t (bb_37 (by omega)), nI_clamp (by omega), mw_eq, wI_n (by omega), e2, mw_eq, mw_eq, nI_succ, nI_succ])
    (fun s ⟨e1, _, _, e4, _⟩ k => by
      have gs := Od_c hG g e4
      unfold f_X2_findFronted_7
      rw [x_houses gs, e1, if_pos (nI_le (by omega) (by omega))])
  exact ⟨s.2, h6, h2, h3, h4, h5⟩
theorem sbN_lt {t : aT} (hG : Good t) (s : Nat) : ∀ l : List Nat, (∀ x, x ∈ l → x < t 13 1) → sbN t l s < 4096 := by
  intro l
  induction l with
  | nil => intro _; exact (by decide : 0 < 4096)
  | cons h l ih =>
    intro hl
    have gs := GS hG
    have w5 := (hG.2.1 h (hl h List.mem_cons_self)).2.2.2.2.2.1
    have i := ih (fun x hx => hl x (List.mem_cons_of_mem _ hx))
    rw [sbN_c]
    split
    · exact Nat.or_lt_two_pow (n := 12) i (pw_lt (show t 5 h - 1 < 12 by omega))
    · exact i
def CutS (m : mj_m) (t : aT) (l : List Nat) (n : Nat) : Prop := ∀ r, r < n → m.1 40 r = nI (sbN t l r) ∧ m.1 41 r = nI (cutN t (sbN t l r))
theorem cutBy8 {m : mj_m} {t : aT} {u : Nat → Int32} (hG : Good t) (g : Rep (cg m 1 8) t u) {L : List Nat} (hL : L = LT t) (hF : m.1 36 9 = nI L.length) (hC : Cells m L) {N : Nat} (hN : 1100 ≤ N) : ∃ m', f_X2_cutBySets N m = some m' ∧ CutS m' t L (2 ^ L.length) ∧ m'.1 36 9 = nI L.length ∧ Cells m' L ∧ Od m m' ∧ m'.2 = m.2 := by
  have ll : L.length ≤ 10 := by rw [hL]; exact LT_len hG
  have Lx : ∀ x, x ∈ L → x < t 13 1 ∧ t 5 x ≠ 0 := fun x hx => by
    rw [hL] at hx
    have := frL_lt _ _ _ hx
    exact ⟨this.1, of_decide_eq_true this.2⟩
  have gh := GH hG
  have gS := GS hG
  have cm : ∀ (m1 : mj_m), (∀ k, m1.1 37 k = m.1 37 k) → Cells m1 L := fun m1 h i x hi hx => (h i).trans (hC i x hi hx)
  have inner : ∀ (i x : Nat) (m1 : mj_m), i < L.length → sfx L (i + 1) = x :: sfx L i → CutS m1 t (sfx L i) (2 ^ i) → Od m m1 → (∀ k, m1.1 37 k = m.1 37 k) → m1.1 36 9 = nI L.length → m1.2 = m.2 →
      ∃ m2 : mj_m, CutS m2 t (sfx L (i + 1)) (2 ^ (i + 1)) ∧ Od m m2 ∧ (∀ k, m2.1 37 k = m.1 37 k) ∧ m2.1 36 9 = nI L.length ∧ m2.2 = m.2 ∧ ∀ k : Int32 × mj_m → Option mj_m, mj_lp N (f_X2_cutBySets_52 N k (nI i) (nI (2 ^ i)) (nI (2 ^ (t 5 x - 1)))) (0, m1) = k (nI (i + 1), m2) := by
    intro i x m1 hi hx h1 h2 h3 h4 h5
    have p10 : 2 ^ (i + 1) ≤ 1024 := (Nat.pow_le_pow_right (by decide) (by omega) : 2 ^ (i + 1) ≤ 2 ^ 10)
    have p2 : 2 ^ (i + 1) = 2 ^ i + 2 ^ i := by rw [Nat.pow_succ]; omega
    have sl : (sfx L i).length = i := sfx_len (by omega)
    have xl : x ∈ L := by obtain ⟨x', e1, e2⟩ := sfx_s hi; rw [e1] at hx; rw [← (List.cons.inj hx).1]; exact e2
    have sub : ∀ y, y ∈ sfx L i → y < t 13 1 := fun y hy => (Lx y (List.mem_of_mem_drop hy)).1
    have lo : ∀ r, r < 2 ^ i → sbN t (sfx L (i + 1)) r = sbN t (sfx L i) r := fun r hr => by rw [hx]; exact sbN_lo t x _ (by rw [sl]; exact hr)
    have up : ∀ r, r < 2 ^ i → sbN t (sfx L (i + 1)) (2 ^ i + r) = sbN t (sfx L i) r ||| 2 ^ (t 5 x - 1) := fun r hr => by
      have := sbN_up t x (sfx L i) (s := r) (by rw [sl]; exact hr)
      rw [sl] at this
      rw [hx]; exact this
    obtain ⟨s, ⟨-, r2, r3, r4, r5, r6⟩, r7⟩ := lp_cntK (K := Int32 × mj_m → Option mj_m) (B := fun κ => f_X2_cutBySets_52 N κ (nI i) (nI (2 ^ i)) (nI (2 ^ (t 5 x - 1)))) (E := fun κ s => κ (nI (i + 1), s.2)) (c := 2 ^ i) (N := N) (s0 := (0, m1)) (fun j s => s.1 = nI j ∧ CutS s.2 t (sfx L (i + 1)) (2 ^ i + j) ∧ Od m s.2 ∧ (∀ k, s.2.1 37 k = m.1 37 k) ∧ s.2.1 36 9 = nI L.length ∧ s.2.2 = m.2) (by omega)
      ⟨rfl, fun r hr => by rw [lo r (by omega)]; exact h1 r (by omega), h2, h3, h4, h5⟩
      (fun j s hj ⟨e1, e2, e3, e4, e5, e6⟩ => by
        have gs := Od_c hG g e3
        have old := e2 j (by omega)
        rw [lo j hj] at old
        have b1 := sbN_lt hG j (sfx L i) sub
        have w5 := (hG.2.1 x (Lx x xl).1).2.2.2.2.2.1
        have b2 : sbN t (sfx L i) j ||| 2 ^ (t 5 x - 1) < 2 ^ 12 := Nat.or_lt_two_pow (n := 12) b1 (pw_lt (show t 5 x - 1 < 12 by omega))
        refine ⟨(nI (j + 1), mj_wI (mj_wI s.2 40 (2 ^ i + j) (nI (sbN t (sfx L i) j ||| 2 ^ (t 5 x - 1)))) 41 (2 ^ i + j) (nI (cutN t (sbN t (sfx L i) j ||| 2 ^ (t 5 x - 1))))), ⟨rfl, fun r hr => ?_, Od_w (Od_w e3 (by omega)) (by omega), fun k => by rw [wI_n (by omega), wI_n (by omega)]; exact e4 k, by rw [wI_n (by omega), wI_n (by omega)]; exact e5, e6⟩, fun κ k => ?_⟩
        · by_cases y : r = 2 ^ i + j
          · subst y
            rw [wI_n (by omega), wI_e, wI_e, up j hj]; exact ⟨rfl, rfl⟩
          · rw [wI_n (by omega), wI_n (by omega), wI_n (by omega), wI_n (by omega)]; exact e2 r (by omega)
        · unfold f_X2_cutBySets_52 f_X2_cutBySets_119
          rw [e1, if_neg (nI_ge hj (by omega)), mj_ck_t (bb_40 (by omega)), nI_clamp (show j < 2 ^ 31 by omega), old.1, n_or, mw_eq, nI_add, mj_ck_t (bb_40 (by omega)), nI_clamp (show 2 ^ i + j < 2 ^ 31 by omega), mw_eq, wI_n (by omega), old.1]
          by_cases y : sbN t (sfx L i) j ||| 2 ^ (t 5 x - 1) = sbN t (sfx L i) j
          · rw [if_pos (by rw [y]), mj_ck_t (bb_41 (by omega)), mj_ck_t (bb_41 (by omega)), wI_n (by omega), old.2, mw_eq, mw_eq, nI_succ, y]
          · rw [if_neg (fun z => y ((nI_eq (by omega) (by omega)).mp z)), cut8 hG (Od_c hG gs (Od_w (Od_r _) (by omega))) _ (by omega), bind_some', mj_ck_t (bb_41 (by omega)), mw_eq, mw_eq, nI_succ])
      (fun s ⟨e1, _, _, _, _, _⟩ κ k => by
        unfold f_X2_cutBySets_52
        rw [e1, if_pos (nI_le (by omega) (by omega)), mw_eq, nI_succ])
    rw [← p2] at r2
    exact ⟨s.2, r2, r3, r4, r5, r6, r7⟩
  unfold f_X2_cutBySets
  rw [mj_ck_t (by decide), mw_eq, show (0 : Int32) = nI 0 from rfl, nI_clamp (by omega), cut8 hG (Od_c hG g (Od_w (Od_r _) (by omega))) 0 (by omega), bind_some', mj_ck_t (by decide), mw_eq]
  obtain ⟨s, ⟨-, h2, h3, h4, h5, h6⟩, h7⟩ := lp_cnt (B := f_X2_cutBySets_23 N) (E := fun s => some s.2) (c := L.length) (N := N) (s0 := (nI 0, mj_wI (mj_wI m 40 0 (nI 0)) 41 0 (nI (cutN t 0)))) (fun i s => s.1 = nI i ∧ CutS s.2 t (sfx L i) (2 ^ i) ∧ Od m s.2 ∧ (∀ k, s.2.1 37 k = m.1 37 k) ∧ s.2.1 36 9 = nI L.length ∧ s.2.2 = m.2) (by omega)
    ⟨rfl, fun r hr => by
      have : r = 0 := by omega
      subst this
      rw [sfx_0, wI_n (by omega), wI_e, wI_e]; exact ⟨rfl, rfl⟩, Od_w (Od_w (Od_r _) (by omega)) (by omega), fun k => by rw [wI_n (by omega), wI_n (by omega)], by rw [wI_n (by omega), wI_n (by omega)]; exact hF, rfl⟩
    (fun i s hi ⟨e1, e2, e3, e4, e5, e6⟩ => by
      obtain ⟨x, hx, xl⟩ := sfx_s hi
      obtain ⟨m2, r1, r2, r3, r4, r5, r6⟩ := inner i x s.2 hi hx e2 e3 e4 e5 e6
      refine ⟨(nI (i + 1), m2), ⟨rfl, r1, r2, r3, r4, r5⟩, fun k => ?_⟩
      have gs := Od_c hG g e3
      have w5 := (hG.2.1 x (Lx x xl).1).2.2.2.2.2.1
      have fb : f_X7_frontBit N (nI x) s.2 = some (nI (2 ^ (t 5 x - 1))) := by
        have xh := (Lx x xl).1
        obtain ⟨j, hj⟩ : ∃ j, t 5 x = j + 1 := ⟨t 5 x - 1, by have := (Lx x xl).2; omega⟩
        unfold f_X7_frontBit
        rw [mj_ck_t (bb_4 (by omega)), nI_clamp (by omega), x_front gs xh, hj, nI_pred, if_neg (nI_neg j (by omega)), n_shl j (by omega), show j + 1 - 1 = j by omega]
      unfold f_X2_cutBySets_23
      rw [e5, e1, if_neg (nI_ge hi (by omega)), n_shl i (by omega), mw_eq, mj_ck_t (bb_37 (by omega)), nI_clamp (by omega), e4, hC i x hi hx, fb, bind_some']
      exact r6 k)
    (fun s ⟨e1, _, _, _, e5, _⟩ k => by
      unfold f_X2_cutBySets_23
      rw [e5, e1, if_pos (nI_le (by omega) (by omega))])
  rw [sfx_all] at h2
  exact ⟨s.2, h7, h2, h5, cm s.2 h4, h3, h6⟩
