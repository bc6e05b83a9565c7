/-! ORDERS, in pure lists; the class's insertion -/
def gd (L : List Nat) (i : Nat) : Nat := L.getD i 0
theorem gd_q (L : List Nat) (i : Nat) : gd L i = (L[i]?).getD 0 := List.getD_eq_getElem?_getD
theorem gd_mem {L : List Nat} {i : Nat} (h : i < L.length) : gd L i ∈ L := by
  rw [gd_q, List.getElem?_eq_getElem h]; exact List.getElem_mem h
theorem gd_ins {L : List Nat} {h p : Nat} (hp : p ≤ L.length) (j : Nat) : gd (L.take p ++ h :: L.drop p) j = if j < p then gd L j else if j = p then h else gd L (j - 1) := by
  have lt : (L.take p).length = p := by rw [List.length_take]; omega
  rw [gd_q, gd_q, gd_q]
  by_cases q : j < p
  · rw [if_pos q, List.getElem?_append_left (by omega), List.getElem?_take_of_lt q]
  · rw [if_neg q, List.getElem?_append_right (by omega), lt]
    by_cases r : j = p
    · rw [if_pos r, r, Nat.sub_self]; rfl
    · rw [if_neg r]
      obtain ⟨d, hd⟩ : ∃ d, j - p = d + 1 := ⟨j - p - 1, by omega⟩
      rw [hd, List.getElem?_cons_succ, List.getElem?_drop, show p + d = j - 1 by omega]
theorem gd_snoc (L : List Nat) (h j : Nat) (hj : j ≤ L.length) : gd (L ++ [h]) j = if j = L.length then h else gd L j := by
  have := gd_ins (L := L) (h := h) (p := L.length) (Nat.le_refl _) j
  rw [List.take_length, List.drop_length] at this
  rw [this]
  by_cases q : j = L.length
  · rw [if_neg (by omega), if_pos q, if_pos q]
  · rw [if_pos (by omega), if_neg q]
def posA (ah : Nat → Nat → Bool) (h : Nat) (L : List Nat) : Nat → Nat
  | 0 => 0
  | i + 1 => if ah h (gd L i) = true then posA ah h L i else i + 1
def insA (ah : Nat → Nat → Bool) (h : Nat) (L : List Nat) : List Nat := L.take (posA ah h L L.length) ++ h :: L.drop (posA ah h L L.length)
def ordA (ah : Nat → Nat → Bool) (t : aT) : Nat → List Nat
  | 0 => []
  | n + 1 => if t 7 n = 2 then ordA ah t n else insA ah n (ordA ah t n)
theorem posA_le (ah : Nat → Nat → Bool) (h : Nat) (L : List Nat) : ∀ i, posA ah h L i ≤ i := by
  intro i
  induction i with
  | zero => exact Nat.le_refl _
  | succ i ih => unfold posA; split <;> omega
theorem posA_hi (ah : Nat → Nat → Bool) (h : Nat) (L : List Nat) : ∀ i j, posA ah h L i < j → j ≤ i → ah h (gd L (j - 1)) = true := by
  intro i
  induction i with
  | zero => intro j h1 h2; omega
  | succ i ih =>
    intro j h1 h2
    unfold posA at h1
    by_cases q : ah h (gd L i) = true
    · rw [if_pos q] at h1
      by_cases r : j = i + 1
      · rw [r]; exact q
      · exact ih j h1 (by omega)
    · rw [if_neg q] at h1; omega
theorem posA_lo (ah : Nat → Nat → Bool) (h : Nat) (L : List Nat) : ∀ i, posA ah h L i = 0 ∨ ah h (gd L (posA ah h L i - 1)) = false := by
  intro i
  induction i with
  | zero => exact Or.inl rfl
  | succ i ih =>
    unfold posA
    by_cases q : ah h (gd L i) = true
    · rw [if_pos q]; exact ih
    · rw [if_neg q]; exact Or.inr (Bool.eq_false_iff.mpr q)
theorem insA_len (ah : Nat → Nat → Bool) (h : Nat) (L : List Nat) : (insA ah h L).length = L.length + 1 := by
  have := posA_le ah h L L.length
  unfold insA
  rw [List.length_append, List.length_cons, List.length_take, List.length_drop]; omega
theorem insA_mem {ah : Nat → Nat → Bool} {h x : Nat} {L : List Nat} : x ∈ insA ah h L ↔ x = h ∨ x ∈ L := by
  unfold insA
  have e : x ∈ L ↔ x ∈ L.take (posA ah h L L.length) ∨ x ∈ L.drop (posA ah h L L.length) := by
    rw [← List.mem_append, List.take_append_drop]
  rw [e, List.mem_append, List.mem_cons]
  constructor
  · rintro (q | q | q)
    · exact Or.inr (Or.inl q)
    · exact Or.inl q
    · exact Or.inr (Or.inr q)
  · rintro (q | q | q)
    · exact Or.inr (Or.inl q)
    · exact Or.inl q
    · exact Or.inr (Or.inr q)
theorem insA_c {ah ah' : Nat → Nat → Bool} {h : Nat} {L : List Nat} (e : ∀ x, x ∈ L → ah h x = ah' h x) : insA ah h L = insA ah' h L := by
  have : ∀ i, i ≤ L.length → posA ah h L i = posA ah' h L i := by
    intro i
    induction i with
    | zero => intro _; rfl
    | succ i ih => intro hi; unfold posA; rw [ih (by omega), e _ (gd_mem (by omega))]
  unfold insA
  rw [this _ (Nat.le_refl _)]
theorem ordA_s (ah : Nat → Nat → Bool) (t : aT) (n : Nat) : ordA ah t (n + 1) = if t 7 n = 2 then ordA ah t n else insA ah n (ordA ah t n) := rfl
theorem ordA_len (ah : Nat → Nat → Bool) (t : aT) : ∀ n, (ordA ah t n).length ≤ n := by
  intro n
  induction n with
  | zero => exact Nat.le_refl _
  | succ n ih =>
    rw [ordA_s]
    split
    · omega
    · rw [insA_len]; omega
theorem ordA_mem (ah : Nat → Nat → Bool) (t : aT) (x : Nat) : ∀ n, x ∈ ordA ah t n ↔ x < n ∧ t 7 x ≠ 2 := by
  intro n
  induction n with
  | zero => exact ⟨fun h => (by cases h), fun h => absurd h.1 (Nat.not_lt_zero _)⟩
  | succ n ih =>
    rw [ordA_s]
    by_cases q : t 7 n = 2
    · rw [if_pos q, ih]
      exact ⟨fun h => ⟨by omega, h.2⟩, fun h => ⟨by
        rcases Nat.lt_or_ge x n with z | z
        · exact z
        · have : x = n := by omega
          rw [this] at h; exact absurd q h.2, h.2⟩⟩
    · rw [if_neg q, insA_mem, ih]
      constructor
      · rintro (h | h)
        · rw [h]; exact ⟨by omega, q⟩
        · exact ⟨by omega, h.2⟩
      · intro h
        by_cases z : x = n
        · exact Or.inl z
        · exact Or.inr ⟨by omega, h.2⟩
theorem ordA_c {ah ah' : Nat → Nat → Bool} {t : aT} : ∀ n, (∀ h x, h < n → x < h → ah h x = ah' h x) → ordA ah t n = ordA ah' t n := by
  intro n
  induction n with
  | zero => intro _; rfl
  | succ n ih =>
    intro e
    rw [ordA_s, ordA_s, ih (fun h x h1 h2 => e h x (by omega) h2)]
    split
    · rfl
    · exact insA_c (fun x hx => e n x (by omega) ((ordA_mem ah' t x n).mp hx).1)
/-- a row of places holds a list -/
def Rw (m : mj_m) (A : Nat) (L : List Nat) : Prop := ∀ i, i < L.length → m.1 A i = nI (gd L i)
theorem Rw_ins {m : mj_m} {A : Nat} {L : List Nat} {h p : Nat} (hp : p ≤ L.length) (h1 : ∀ j, j < p → m.1 A j = nI (gd L j)) (h2 : ∀ j, p < j → j ≤ L.length → m.1 A j = nI (gd L (j - 1))) : Rw (mj_wI m A p (nI h)) A (L.take p ++ h :: L.drop p) := by
  intro j hj
  rw [List.length_append, List.length_cons, List.length_take, List.length_drop] at hj
  rw [gd_ins hp]
  by_cases q : j < p
  · rw [if_pos q, wI_n (by omega)]; exact h1 j q
  · rw [if_neg q]
    by_cases r : j = p
    · rw [if_pos r, r, wI_e]
    · rw [if_neg r, wI_n (by omega)]; exact h2 j (by omega) (by omega)
theorem insert8 {m : mj_m} {A : Nat} (hA : A ≠ 46) (hb : ∀ i, i < 10 → mj_b 0 A (nI i) = true) {L : List Nat} {h : Nat} {ah : Nat → Nat → Bool} (hL : L.length < 10) (hx : ∀ x, x ∈ L → x < 10) (hh : h < 10) (hk : ∀ x, x ∈ L → (m.1 46 h ≤ m.1 46 x ↔ ah h x = false)) (hr : Rw m A L) {N : Nat} (hN : 20 ≤ N) : ∃ m', f_X3_insert N (nI h) (nI L.length) A m = some m' ∧ Rw m' A (insA ah h L) ∧ (∀ a k, a ≠ A → m'.1 a k = m.1 a k) ∧ m'.2 = m.2 := by
  have pl := posA_le ah h L L.length
  unfold f_X3_insert
  rw [if_neg (show ¬ 9 < nI L.length from (nI_nlt (by omega) (by omega) : ¬ nI 9 < nI L.length)), mw_eq]
  obtain ⟨s, ⟨e1, e2, e3, e4, e5, e6⟩, e7⟩ := lp_cnt (B := f_X3_insert_12 N (nI h) A) (E := fun s => f_X3_insert_59 N (nI h) A s.1 s.2.2) (c := L.length - posA ah h L L.length) (N := N) (s0 := (nI L.length, nI L.length, m)) (fun d s => s.1 = nI (L.length - d) ∧ s.2.1 = nI (L.length - d) ∧ (∀ j, j < L.length - d → s.2.2.1 A j = nI (gd L j)) ∧ (∀ j, L.length - d < j → j ≤ L.length → s.2.2.1 A j = nI (gd L (j - 1))) ∧ (∀ a k, a ≠ A → s.2.2.1 a k = m.1 a k) ∧ s.2.2.2 = m.2) (by omega)
    ⟨rfl, rfl, fun j hj => hr j (by omega), fun j h1 h2 => by omega, fun _ _ _ => rfl, rfl⟩
    (fun d s hd ⟨e1, e2, e3, e4, e5, e6⟩ => by
      obtain ⟨i, hi⟩ : ∃ i, L.length - d = i + 1 := ⟨L.length - d - 1, by omega⟩
      have hi' : L.length - (d + 1) = i := by omega
      rw [hi] at e1 e2 e3 e4
      have gm := gd_mem (L := L) (i := i) (by omega)
      have g10 := hx _ gm
      have ahead := posA_hi ah h L L.length (i + 1) (by omega) (by omega)
      rw [show i + 1 - 1 = i by omega] at ahead
      refine ⟨(nI i, nI i, mj_wI s.2.2 A (i + 1) (nI (gd L i))), ⟨by rw [hi'], by rw [hi'], fun j hj => ?_, fun j h1 h2 => ?_, fun a k q => by rw [wI_n (by omega)]; exact e5 a k q, e6⟩, fun k => ?_⟩
      · rw [wI_n (by omega)]; exact e3 j (by omega)
      · by_cases y : j = i + 1
        · rw [y, wI_e, show i + 1 - 1 = i by omega]
        · rw [wI_n (by omega)]; exact e4 j (by omega) h2
      · unfold f_X3_insert_12
        have k46 : mj_b 0 46 (nI (gd L i)) = true := bb_46 g10
        rw [e1, e2, nI_pred, if_neg (show ¬ nI (i + 1) ≤ 0 from (nI_ge (by omega) (by omega) : ¬ nI (i + 1) ≤ nI 0)), mj_ck_t (hb i (by omega)), nI_clamp (show i < 2 ^ 31 by omega), e3 i (by omega), mj_ck_t k46, mj_ck_t (bb_46 hh), nI_clamp (show gd L i < 2 ^ 31 by omega), nI_clamp (show h < 2 ^ 31 by omega), e5 46 h (fun z => hA z.symm), e5 46 (gd L i) (fun z => hA z.symm), if_neg (fun z => by rw [(hk _ gm).mp z] at ahead; cases ahead), mj_ck_t (hb (i + 1) (by omega)), nI_clamp (show i + 1 < 2 ^ 31 by omega), mw_eq, mw_eq, mw_eq, m1_sub, nI_pred])
    (fun s ⟨e1, e2, e3, e4, e5, e6⟩ k => by
      rw [show L.length - (L.length - posA ah h L L.length) = posA ah h L L.length by omega] at e1 e2 e3 e4
      unfold f_X3_insert_12
      rcases posA_lo ah h L L.length with z | z
      · rw [e2, z, if_pos (by decide)]
      · by_cases y : posA ah h L L.length = 0
        · rw [e2, y, if_pos (by decide)]
        · obtain ⟨i, hi⟩ : ∃ i, posA ah h L L.length = i + 1 := ⟨posA ah h L L.length - 1, by omega⟩
          rw [hi, show i + 1 - 1 = i by omega] at z
          have gm := gd_mem (L := L) (i := i) (by omega)
          have g10 := hx _ gm
          have k46 : mj_b 0 46 (nI (gd L i)) = true := bb_46 g10
          rw [e2, hi, nI_pred, if_neg (show ¬ nI (i + 1) ≤ 0 from (nI_ge (by omega) (by omega) : ¬ nI (i + 1) ≤ nI 0)), mj_ck_t (hb i (by omega)), nI_clamp (show i < 2 ^ 31 by omega), e3 i (by omega), mj_ck_t k46, mj_ck_t (bb_46 hh), nI_clamp (show gd L i < 2 ^ 31 by omega), nI_clamp (show h < 2 ^ 31 by omega), e5 46 h (fun z => hA z.symm), e5 46 (gd L i) (fun z => hA z.symm), if_pos ((hk _ gm).mpr z)])
  rw [show L.length - (L.length - posA ah h L L.length) = posA ah h L L.length by omega] at e1 e3 e4
  refine ⟨mj_wI s.2.2 A (posA ah h L L.length) (nI h), ?_, Rw_ins pl e3 e4, fun a k q => by rw [wI_n (by omega)]; exact e5 a k q, e6⟩
  rw [e7]
  unfold f_X3_insert_59
  rw [e1, mj_ck_t (hb _ (by omega)), nI_clamp (by omega), mw_eq]
/-- by keys -/
def akB (ky : Nat → Int) (h x : Nat) : Bool := decide (ky x < ky h)
theorem arr8 {m : mj_m} {t : aT} {u : Nat → Int32} (hG : Good t) (g : Rep (cg m 1 8) t u) {s A : Nat} (hA : A = 78 ∨ A = 49) {ky : Nat → Int} {N : Nat} (hN : 20 ≤ N) (hk : ∀ m', Pd m m' → ∀ h, h < t 13 1 → ∃ x, f_X3_keyOf N (79 + 2 * s) (nI h) m' = some x ∧ x.toInt = ky h) : ∃ m', mj_lp N (f_X3_arrange_23 N (79 + 2 * s) A) (0, 0, m) = some (nI (ordA (akB ky) t (t 13 1)).length, m') ∧ Rw m' A (ordA (akB ky) t (t 13 1)) ∧ Pd m m' ∧ (∀ a k, a ≠ 46 → a ≠ A → m'.1 a k = m.1 a k) ∧ m'.2 = m.2 := by
  have gh := GH hG
  have hb : ∀ i, i < 10 → mj_b 0 A (nI i) = true := fun i hi => by
    rcases hA with rfl | rfl
    · exact bb_78 hi
    · exact bb_49 hi
  obtain ⟨z, ⟨e1, e2, e3, e4, e5, e6⟩, e7⟩ := lp_cnt (B := f_X3_arrange_23 N (79 + 2 * s) A) (E := fun z => some (z.1, z.2.2)) (c := t 13 1) (N := N) (s0 := (0, 0, m)) (fun i z => z.2.1 = nI i ∧ z.1 = nI (ordA (akB ky) t i).length ∧ Rw z.2.2 A (ordA (akB ky) t i) ∧ (∀ h, h < i → t 7 h ≠ 2 → (z.2.2.1 46 h).toInt = ky h) ∧ (∀ a k, a ≠ 46 → a ≠ A → z.2.2.1 a k = m.1 a k) ∧ z.2.2.2 = m.2) (by omega)
    ⟨rfl, rfl, fun i hi => absurd hi (Nat.not_lt_zero i), fun h hh => absurd hh (Nat.not_lt_zero h), fun _ _ _ _ => rfl, rfl⟩
    (fun i z hi ⟨e1, e2, e3, e4, e5, e6⟩ => by
      have pz : Pd m z.2.2 := ⟨fun a k q => e5 a k (by omega) (by omega), fun a k q => by rw [e6]⟩
      have gs := Pd_c hG g pz
      have sl := st_le hG hi
      have ol := ordA_len (akB ky) t i
      by_cases q : t 7 i = 2
      · refine ⟨(z.1, nI (i + 1), z.2.2), ⟨rfl, ?_, ?_, fun h h1 h2 => ?_, e5, e6⟩, fun k => ?_⟩
        · rw [ordA_s, if_pos q]; exact e2
        · rw [ordA_s, if_pos q]; exact e3
        · exact e4 h (by rcases Nat.lt_or_ge h i with y | y
                         · exact y
                         · have : h = i := by omega
                           rw [this] at h2; exact absurd q h2) h2
        · unfold f_X3_arrange_23 f_X3_arrange_74
          rw [x_houses gs, e1, if_neg (nI_ge hi (by omega)), mj_ck_t (bb_5 (by omega)), nI_clamp (by omega), x_steps gs hi, q, if_pos (by decide), mw_eq, nI_succ]
      · obtain ⟨x, k1, k2⟩ := hk z.2.2 pz i hi
        obtain ⟨m2, r1, r2, r3, r4⟩ := insert8 (m := mj_wI z.2.2 46 i x) (A := A) (by omega) hb (L := ordA (akB ky) t i) (h := i) (ah := akB ky) (by omega) (fun y hy => by have := ((ordA_mem _ _ _ _).mp hy).1; omega) (by omega) (fun y hy => by
          obtain ⟨y1, y2⟩ := (ordA_mem _ _ _ _).mp hy
          rw [wI_e, wI_n (by omega), Int32.le_iff_toInt_le, k2, e4 y y1 y2]
          unfold akB
          rw [decide_eq_false_iff_not]; omega) (fun j hj => by rw [wI_n (by omega)]; exact e3 j hj) hN
        refine ⟨(nI (ordA (akB ky) t (i + 1)).length, nI (i + 1), m2), ⟨rfl, rfl, ?_, fun h h1 h2 => ?_, fun a k q1 q2 => ?_, r4.trans e6⟩, fun k => ?_⟩
        · rw [ordA_s, if_neg q]; exact r2
        · rw [r3 46 h (by omega)]
          by_cases y : h = i
          · rw [y, wI_e]; exact k2
          · rw [wI_n (by omega)]; exact e4 h (by omega) h2
        · rw [r3 a k q2, wI_n (by omega)]; exact e5 a k q1 q2
        · unfold f_X3_arrange_23 f_X3_arrange_74
          rw [x_houses gs, e1, if_neg (nI_ge hi (by omega)), mj_ck_t (bb_5 (by omega)), nI_clamp (show i < 2 ^ 31 by omega), x_steps gs hi, if_neg (show ¬ 2 ≤ nI (t 7 i) from (nI_ge (show t 7 i < 2 by omega) (by omega) : ¬ nI 2 ≤ nI (t 7 i))), k1, bind_some', mj_ck_t (bb_46 (by omega)), mw_eq, e2, r1, bind_some', mw_eq, mw_eq, ordA_s, if_neg q, insA_len, nI_succ, nI_succ])
    (fun z ⟨e1, _, _, _, e5, e6⟩ k => by
      have gs := Pd_c hG g (⟨fun a k q => e5 a k (by omega) (by omega), fun a k q => by rw [e6]⟩ : Pd m z.2.2)
      unfold f_X3_arrange_23
      rw [x_houses gs, e1, if_pos (nI_le (by omega) (by omega))])
  exact ⟨z.2.2, by rw [e7, e2], e3, ⟨fun a k q => e5 a k (by omega) (by omega), fun a k q => by rw [e6]⟩, e5, e6⟩
